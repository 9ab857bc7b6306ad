section
/-! numbers: rows of kit/rows (pk_) -/
theorem pk_us {f : Nat → Int32} {k : Nat} {x : Int32} : upd f k x k = x := if_pos rfl
theorem pk_un {f : Nat → Int32} {k j : Nat} {x : Int32} (h : j ≠ k) : upd f k x j = f j := if_neg h
theorem pk_sub {a b : Nat} (h : b ≤ a) : nI a - nI b = nI (a - b) := by
  obtain ⟨c, rfl⟩ : ∃ c, a = c + b := ⟨a - b, by omega⟩
  rw [← nI_add, Int32.add_sub_cancel, Nat.add_sub_cancel]
theorem pk_m1 (n : Nat) : nI (n + 1) + (-1) = nI n := by
  rw [← nI_1, Int32.add_assoc, show (1 : Int32) + (-1) = 0 from rfl, Int32.add_zero]
theorem pk_mul (a b : Nat) : nI a * nI b = nI (a * b) := (Int32.ofNat_mul a b).symm
theorem pk_div {a d : Nat} (ha : a < 2 ^ 31) (h0 : 0 < d) (hd : d < 2 ^ 31) : nI a / nI d = nI (a / d) := by
  apply Int32.toInt_inj.mp
  rw [lg_idiv_nonneg (by rw [nI_toInt ha]; omega) (by rw [nI_toInt hd]; omega), nI_toInt ha, nI_toInt hd, nI_toInt (Nat.lt_of_le_of_lt (Nat.div_le_self a d) ha)]
  first | rfl | exact (Int.natCast_ediv _ _).symm
theorem pk_rem {a d : Nat} (ha : a < 2 ^ 31) (h0 : 0 < d) (hd : d < 2 ^ 31) : nI a - nI a / nI d * nI d = nI (a % d) := by
  rw [pk_div ha h0 hd, pk_mul, pk_sub (Nat.div_mul_le_self a d)]
  exact congrArg nI (by have := Nat.div_add_mod' a d; omega)
theorem pk_sub_toInt {a b : Nat} (ha : a < 2 ^ 30) (hb : b < 2 ^ 30) : (nI a - nI b).toInt = (a : Int) - b := by
  rw [Int32.toInt_sub, nI_toInt (by omega), nI_toInt (by omega)]
  exact Int.bmod_eq_of_le (by omega) (by omega)
theorem pk_sneg {a b : Nat} (hb : b < 2 ^ 30) (h : a < b) : nI a - nI b < 0 := by
  rw [Int32.lt_iff_toInt_lt, pk_sub_toInt (by omega) hb, show (0 : Int32).toInt = 0 from by decide]
  omega
theorem pk_ix (x : Int32) {n : Nat} (hn : n < 2 ^ 31) : x < 0 ∨ nI n ≤ x ∨ ∃ j : Nat, j < n ∧ x = nI j := by
  by_cases h : x < 0
  · exact Or.inl h
  · obtain ⟨j, hj, rfl⟩ := nI_of h
    by_cases h2 : j < n
    · exact Or.inr (Or.inr ⟨j, h2, rfl⟩)
    · exact Or.inr (Or.inl (nI_le (by omega) hj))
theorem pk_le {x y : Int32} {A B : Prop} (a b : Nat) (f : a ≤ b → A) (g : b < a → B) (hx : x = nI a := by rfl) (hy : y = nI b := by rfl) (ha : a < 2 ^ 31 := by omega) (hb : b < 2 ^ 31 := by omega) : (x ≤ y → A) ∧ (¬ x ≤ y → B) := by
  subst hx hy
  rw [nI_leI ha hb]
  exact ⟨f, fun z => g (by omega)⟩
theorem pk_lt {x y : Int32} {A B : Prop} (a b : Nat) (f : a < b → A) (g : b ≤ a → B) (hx : x = nI a := by rfl) (hy : y = nI b := by rfl) (ha : a < 2 ^ 31 := by omega) (hb : b < 2 ^ 31 := by omega) : (x < y → A) ∧ (¬ x < y → B) := by
  subst hx hy
  rw [nI_ltI ha hb]
  exact ⟨f, fun z => g (by omega)⟩
theorem pk_eq {x y : Int32} {A B : Prop} (a b : Nat) (f : a = b → A) (g : a ≠ b → B) (hx : x = nI a := by rfl) (hy : y = nI b := by rfl) (ha : a < 2 ^ 31 := by omega) (hb : b < 2 ^ 31 := by omega) : (x = y → A) ∧ (¬ x = y → B) := by
  subst hx hy
  rw [nI_eq ha hb]
  exact ⟨f, g⟩
theorem pk_in {x : Int32} (n N : Nat) (h : n < N) (hx : x = nI n := by rfl) (hN : N < 2 ^ 31 := by omega) : vp_in x N := by
  subst hx
  exact vp_in_nI h hN
theorem pk_cl {x : Int32} (n : Nat) (hx : x = nI n := by rfl) (h : n < 2 ^ 31 := by omega) : x.toNatClampNeg = n := by
  subst hx
  exact nI_clamp h
theorem fi_m64 (d : Nat) : (64 : Int32) * nI d = nI (64 * d) := pk_mul 64 d
theorem fi_m60 (d : Nat) : (60 : Int32) * nI d = nI (60 * d) := pk_mul 60 d
theorem fi_d64 {q : Nat} (h : q < 2 ^ 31) : nI q / 64 = nI (q / 64) := pk_div (d := 64) h (by decide) (by decide)
theorem fi_r64 {q : Nat} (h : q < 2 ^ 31) : nI q - nI (q / 64) * 64 = nI (q % 64) := by
  have := pk_rem (d := 64) h (by decide) (by decide)
  rw [pk_div h (by decide) (by decide)] at this
  exact this
theorem fi_r64' {q : Nat} (h : q < 2 ^ 31) : nI q - nI q / 64 * 64 = nI (q % 64) := pk_rem (d := 64) h (by decide) (by decide)

/-! the places: a fold over the places of the first D documents, in rising order, with an early answer -/
def fi_ok (D : Nat) (L : Nat → Nat) (q : Nat) : Bool := decide (q / 64 < D) && decide (q % 64 < L (q / 64))
theorem fi_ok_t {D : Nat} {L : Nat → Nat} {q : Nat} (h : fi_ok D L q = true) : q / 64 < D ∧ q % 64 < L (q / 64) := by
  unfold fi_ok at h
  rw [Bool.and_eq_true, decide_eq_true_eq, decide_eq_true_eq] at h
  exact h
theorem fi_ok_i {D : Nat} {L : Nat → Nat} {q : Nat} (h1 : q / 64 < D) (h2 : q % 64 < L (q / 64)) : fi_ok D L q = true := by
  unfold fi_ok
  rw [Bool.and_eq_true, decide_eq_true_eq, decide_eq_true_eq]
  exact ⟨h1, h2⟩
theorem fi_ok_f {D : Nat} {L : Nat → Nat} {q : Nat} (h : ¬ (q / 64 < D ∧ q % 64 < L (q / 64))) : fi_ok D L q = false := by
  cases e : fi_ok D L q
  · rfl
  · exact absurd (fi_ok_t e) h
theorem fi_ok_n {D : Nat} {L : Nat → Nat} {q : Nat} (h : fi_ok D L q = false) : ¬ (q / 64 < D ∧ q % 64 < L (q / 64)) := by
  intro z
  rw [fi_ok_i z.1 z.2] at h
  exact absurd h (by decide)
theorem fi_dv {d p : Nat} (hp : p < 64) : (64 * d + p) / 64 = d := by omega
theorem fi_md {d p : Nat} (hp : p < 64) : (64 * d + p) % 64 = p := by omega
theorem fi_ok_dp {D : Nat} {L : Nat → Nat} {d p : Nat} (hp : p < 64) (hd : d < D) (h : p < L d) : fi_ok D L (64 * d + p) = true := by
  apply fi_ok_i
  · rw [fi_dv hp]; exact hd
  · rw [fi_dv hp, fi_md hp]; exact h
def fi_fo (ok : Nat → Bool) (st : Nat → Int32 → Sum Int32 Int32) (fin : Int32 → Int32) : Nat → Nat → Int32 → Int32
  | 0, _, s => fin s
  | n + 1, q, s => match ok q with
    | false => fi_fo ok st fin n (q + 1) s
    | true => match st q s with
      | .inl r => r
      | .inr s' => fi_fo ok st fin n (q + 1) s'
theorem fi_fo_f {ok : Nat → Bool} {st : Nat → Int32 → Sum Int32 Int32} {fin : Int32 → Int32} {n q : Nat} {s : Int32} (h : ok q = false) : fi_fo ok st fin (n + 1) q s = fi_fo ok st fin n (q + 1) s := by
  simp only [fi_fo, h]
theorem fi_fo_l {ok : Nat → Bool} {st : Nat → Int32 → Sum Int32 Int32} {fin : Int32 → Int32} {n q : Nat} {s r : Int32} (h : ok q = true) (e : st q s = .inl r) : fi_fo ok st fin (n + 1) q s = r := by
  simp only [fi_fo, h, e]
theorem fi_fo_r {ok : Nat → Bool} {st : Nat → Int32 → Sum Int32 Int32} {fin : Int32 → Int32} {n q : Nat} {s s' : Int32} (h : ok q = true) (e : st q s = .inr s') : fi_fo ok st fin (n + 1) q s = fi_fo ok st fin n (q + 1) s' := by
  simp only [fi_fo, h, e]
theorem fi_skip (ok : Nat → Bool) (st : Nat → Int32 → Sum Int32 Int32) (fin : Int32 → Int32) : ∀ (m n q : Nat) (s : Int32), (∀ j, j < m → ok (q + j) = false) → fi_fo ok st fin (m + n) q s = fi_fo ok st fin n (q + m) s := by
  intro m
  induction m with
  | zero =>
    intro n q s _
    rw [Nat.zero_add, Nat.add_zero]
  | succ m ih =>
    intro n q s h
    have h0 : ok q = false := h 0 (by omega)
    have h1 : ∀ j, j < m → ok (q + 1 + j) = false := by
      intro j hj
      have := h (j + 1) (by omega)
      rwa [show q + (j + 1) = q + 1 + j by omega] at this
    rw [show m + 1 + n = (m + n) + 1 by omega, fi_fo_f h0, ih n (q + 1) s h1, show q + 1 + m = q + (m + 1) by omega]
/-- rows behind which nothing happens -/
theorem fi_tail (ok : Nat → Bool) (st : Nat → Int32 → Sum Int32 Int32) (fin : Int32 → Int32) : ∀ (n q : Nat) (s : Int32), (∀ j t, q ≤ j → st j t = .inr t) → fi_fo ok st fin n q s = fin s := by
  intro n
  induction n with
  | zero => intro q s _; rfl
  | succ n ih =>
    intro q s h
    have h2 : ∀ j t, q + 1 ≤ j → st j t = .inr t := fun j t hj => h j t (by omega)
    cases e : ok q
    · rw [fi_fo_f e]; exact ih _ _ h2
    · rw [fi_fo_r e (h q s (Nat.le_refl q))]; exact ih _ _ h2
theorem fi_cut (ok : Nat → Bool) (st : Nat → Int32 → Sum Int32 Int32) (fin : Int32 → Int32) : ∀ (m n q : Nat) (s : Int32), (∀ j t, q + m ≤ j → st j t = .inr t) → fi_fo ok st fin (m + n) q s = fi_fo ok st fin m q s := by
  intro m
  induction m with
  | zero =>
    intro n q s h
    rw [Nat.zero_add]
    exact fi_tail ok st fin n q s h
  | succ m ih =>
    intro n q s h
    have h2 : ∀ j t, q + 1 + m ≤ j → st j t = .inr t := fun j t hj => h j t (by omega)
    rw [show m + 1 + n = (m + n) + 1 by omega]
    cases e : ok q
    · rw [fi_fo_f e, fi_fo_f e]; exact ih n _ _ h2
    · cases e2 : st q s
      · rw [fi_fo_l e e2, fi_fo_l e e2]
      · rw [fi_fo_r e e2, fi_fo_r e e2]; exact ih n _ _ h2
theorem fi_okc {ok ok' : Nat → Bool} {st : Nat → Int32 → Sum Int32 Int32} {fin : Int32 → Int32} : ∀ (n q : Nat) (s : Int32), (∀ j, q ≤ j → j < q + n → ok j = ok' j) → fi_fo ok st fin n q s = fi_fo ok' st fin n q s := by
  intro n
  induction n with
  | zero => intro q s _; rfl
  | succ n ih =>
    intro q s h
    have h2 : ∀ j, q + 1 ≤ j → j < q + 1 + n → ok j = ok' j := fun j h3 h4 => h j (by omega) (by omega)
    have h0 : ok q = ok' q := h q (Nat.le_refl q) (by omega)
    cases e : ok q
    · rw [fi_fo_f e, fi_fo_f (h0.symm.trans e)]; exact ih _ _ h2
    · cases e2 : st q s
      · rw [fi_fo_l e e2, fi_fo_l (h0.symm.trans e) e2]
      · rw [fi_fo_r e e2, fi_fo_r (h0.symm.trans e) e2]; exact ih _ _ h2
/-- a walk over all numbers below e that asks of each whether it is a place -/
theorem fi_X (W : Nat → Nat → Int32 → Prop) (post : Int32 → Prop) (e : Nat) (ok : Nat → Bool) (st : Nat → Int32 → Sum Int32 Int32) (fin : Int32 → Int32)
    (hx : ∀ n s, post (fin s) → W (n + 1) e s)
    (hs : ∀ n q s, q < e → (ok q = false → W n (q + 1) s) → (∀ r, ok q = true → st q s = .inl r → post r) → (∀ s', ok q = true → st q s = .inr s' → W n (q + 1) s') → W (n + 1) q s) :
    ∀ (m n q : Nat) (s : Int32), q + m = e → m < n → post (fi_fo ok st fin m q s) → W n q s := by
  intro m
  induction m with
  | zero =>
    intro n q s h1 h2 h3
    obtain ⟨n, rfl⟩ : ∃ k, n = k + 1 := ⟨n - 1, by omega⟩
    have h4 : q = e := by omega
    rw [h4]
    exact hx n s h3
  | succ m ih =>
    intro n q s h1 h2 h3
    obtain ⟨n, rfl⟩ : ∃ k, n = k + 1 := ⟨n - 1, by omega⟩
    refine hs n q s (by omega) (fun h => ih n (q + 1) s (by omega) (by omega) ?_) (fun r h e => ?_) (fun s' h e => ih n (q + 1) s' (by omega) (by omega) ?_)
    · rwa [fi_fo_f h] at h3
    · rwa [fi_fo_l h e] at h3
    · rwa [fi_fo_r h e] at h3
/-- two nested walks: documents, then positions -/
theorem fi_Y (W : Nat → Nat → Int32 → Prop) (V : Nat → Nat → Nat → Nat → Int32 → Prop) (post : Int32 → Prop) (D : Nat) (L : Nat → Nat) (st : Nat → Int32 → Sum Int32 Int32) (fin : Int32 → Int32)
    (hD : D ≤ 5) (hL : ∀ d, L d ≤ 60)
    (hx : ∀ n s, post (fin s) → W (n + 1) D s)
    (hin : ∀ n d s, d < D → (∃ m, V n d m 0 s) → W (n + 1) d s)
    (hex : ∀ n m d s, d < D → W n (d + 1) s → V n d (m + 1) (L d) s)
    (hst : ∀ n m d p s, d < D → p < L d → (∀ r, st (64 * d + p) s = .inl r → post r) → (∀ s', st (64 * d + p) s = .inr s' → V n d m (p + 1) s') → V n d (m + 1) p s) :
    ∀ (n d : Nat) (s : Int32), d ≤ D → D - d < n → post (fi_fo (fi_ok D L) st fin (320 - 64 * d) (64 * d) s) → W n d s := by
  intro n
  induction n with
  | zero => intro d s h1 h2; omega
  | succ n ih =>
    intro d s h1 h2 h3
    by_cases hd : d < D
    · refine hin n d s hd ⟨L d + 1, ?_⟩
      have hLd := hL d
      have key : ∀ (k p : Nat) (s : Int32), p + k = L d → post (fi_fo (fi_ok D L) st fin (320 - 64 * d - p) (64 * d + p) s) → V n d (k + 1) p s := by
        intro k
        induction k with
        | zero =>
          intro p s h4 h5
          have h6 : p = L d := by omega
          have hs : ∀ j, j < 64 - p → fi_ok D L (64 * d + p + j) = false := by
            intro j hj
            apply fi_ok_f
            rw [show 64 * d + p + j = 64 * d + (p + j) by omega, fi_dv (by omega), fi_md (by omega)]
            omega
          have h7 : 320 - 64 * d - p = (64 - p) + (320 - 64 * (d + 1)) := by omega
          have h8 := fi_skip (fi_ok D L) st fin (64 - p) (320 - 64 * (d + 1)) (64 * d + p) s hs
          rw [h7, h8, show 64 * d + p + (64 - p) = 64 * (d + 1) by omega] at h5
          rw [h6]
          exact hex n 0 d s hd (ih (d + 1) s (by omega) (by omega) h5)
        | succ k ihk =>
          intro p s h4 h5
          have hp : p < L d := by omega
          have h7 : 320 - 64 * d - p = (320 - 64 * d - (p + 1)) + 1 := by omega
          have hok : fi_ok D L (64 * d + p) = true := fi_ok_dp (by omega) hd hp
          rw [h7] at h5
          refine hst n (k + 1) d p s hd hp (fun r e => ?_) (fun s' e => ihk (p + 1) s' (by omega) ?_)
          · rwa [fi_fo_l hok e] at h5
          · rw [fi_fo_r hok e] at h5
            exact h5
      exact key (L d) 0 s (by omega) h3
    · have h4 : d = D := by omega
      rw [h4] at h3 ⊢
      refine hx n s ?_
      have h8 := fi_skip (fi_ok D L) st fin (320 - 64 * D) 0 (64 * D) s (fun j hj => fi_ok_f (by omega))
      rw [Nat.add_zero] at h8
      rw [h8] at h3
      exact h3
end
section
/-! the values of the questions, over the component's text tx (its index is the place), lengths L, pattern pt -/
def fi_b (b : Bool) : Int32 := match b with
  | true => 1
  | false => 0
theorem fi_b_t : ¬ fi_b true = 0 := by decide
theorem fi_b_f : fi_b false = 0 := rfl
theorem fi_pt {post : Int32 → Prop} {b : Bool} (h : post (fi_b b)) (e : b = true) : post 1 := by subst e; exact h
theorem fi_pf {post : Int32 → Prop} {b : Bool} (h : post (fi_b b)) (e : b = false) : post 0 := by subst e; exact h
theorem fi_br {b : Bool} {A B : Prop} (f : b = false → A) (g : b = true → B) : (fi_b b = 0 → A) ∧ (¬ fi_b b = 0 → B) := by
  cases b
  · exact br_t rfl (f rfl)
  · exact br_f fi_b_t (g rfl)
theorem fi_10 : ¬ (1 : Int32) = 0 := by decide
theorem fi_640 : ¬ (64 : Int32) = 0 := by decide
def fi_rl (L : Nat → Nat) (q : Nat) : Nat := L (q / 64) - q % 64
theorem fi_rl_dp {L : Nat → Nat} {d p : Nat} (hp : p < 64) : fi_rl L (64 * d + p) = L d - p := by
  unfold fi_rl
  rw [fi_dv hp, fi_md hp]
/-- how far two rests agree -/
def fi_sp (tx : Nat → Int32) (a b q r : Nat) : Nat → Nat → Nat
  | 0, k => k
  | n + 1, k => if k < a ∧ k < b ∧ tx (q + k) = tx (r + k) then fi_sp tx a b q r n (k + 1) else k
theorem fi_sp_stop {tx : Nat → Int32} {a b q r n k : Nat} (h : ¬ (k < a ∧ k < b ∧ tx (q + k) = tx (r + k))) : fi_sp tx a b q r n k = k := by
  cases n
  · rfl
  · simp only [fi_sp, if_neg h]
theorem fi_sp_go {tx : Nat → Int32} {a b q r n k : Nat} (h : k < a ∧ k < b ∧ tx (q + k) = tx (r + k)) : fi_sp tx a b q r (n + 1) k = fi_sp tx a b q r n (k + 1) := by
  simp only [fi_sp, if_pos h]
theorem fi_sp_le {tx : Nat → Int32} {a b q r : Nat} : ∀ n k, k ≤ a → k ≤ b → fi_sp tx a b q r n k ≤ a ∧ fi_sp tx a b q r n k ≤ b := by
  intro n
  induction n with
  | zero => intro k h1 h2; exact ⟨h1, h2⟩
  | succ n ih =>
    intro k h1 h2
    by_cases h : k < a ∧ k < b ∧ tx (q + k) = tx (r + k)
    · rw [fi_sp_go h]; exact ih (k + 1) (by omega) (by omega)
    · rw [fi_sp_stop h]; exact ⟨h1, h2⟩
theorem fi_sp_sym {tx : Nat → Int32} {a b q r : Nat} : ∀ n k, fi_sp tx a b q r n k = fi_sp tx b a r q n k := by
  intro n
  induction n with
  | zero => intro k; rfl
  | succ n ih =>
    intro k
    by_cases h : k < a ∧ k < b ∧ tx (q + k) = tx (r + k)
    · rw [fi_sp_go h, fi_sp_go ⟨h.2.1, h.1, h.2.2.symm⟩]; exact ih (k + 1)
    · rw [fi_sp_stop h, fi_sp_stop (fun z => h ⟨z.2.1, z.1, z.2.2.symm⟩)]
def fi_sh (tx : Nat → Int32) (L : Nat → Nat) (q r : Nat) : Nat := fi_sp tx (fi_rl L q) (fi_rl L r) q r 60 0
theorem fi_sh_le (tx : Nat → Int32) (L : Nat → Nat) (q r : Nat) : fi_sh tx L q r ≤ fi_rl L q ∧ fi_sh tx L q r ≤ fi_rl L r := fi_sp_le 60 0 (Nat.zero_le _) (Nat.zero_le _)
theorem fi_sh_sym (tx : Nat → Int32) (L : Nat → Nat) (q r : Nat) : fi_sh tx L q r = fi_sh tx L r q := fi_sp_sym 60 0
/-- whether one rest comes before another: s symbols in common, a and b their lengths -/
def fi_bs (tx : Nat → Int32) (s a b q r : Nat) : Bool :=
  if s < a ∧ s < b then decide (¬ tx (r + s) ≤ tx (q + s)) else if a = b then decide (q < r) else decide (a < b)
theorem fi_bs_l {tx : Nat → Int32} {s a b q r : Nat} (h : s < a ∧ s < b) : fi_bs tx s a b q r = decide (¬ tx (r + s) ≤ tx (q + s)) := if_pos h
theorem fi_bs_e {tx : Nat → Int32} {s a b q r : Nat} (h : ¬ (s < a ∧ s < b)) (e : a = b) : fi_bs tx s a b q r = decide (q < r) := by
  unfold fi_bs
  rw [if_neg h, if_pos e]
theorem fi_bs_n {tx : Nat → Int32} {s a b q r : Nat} (h : ¬ (s < a ∧ s < b)) (e : ¬ a = b) : fi_bs tx s a b q r = decide (a < b) := by
  unfold fi_bs
  rw [if_neg h, if_neg e]
def fi_bf (tx : Nat → Int32) (L : Nat → Nat) (q r : Nat) : Bool := fi_bs tx (fi_sh tx L q r) (fi_rl L q) (fi_rl L r) q r
/-- whether the rest at q begins with the pattern's symbols a .. b - 1 -/
def fi_oa (tx pt : Nat → Int32) : Nat → Nat → Nat → Bool
  | 0, _, _ => true
  | n + 1, q, k => if tx q = pt k then fi_oa tx pt n (q + 1) (k + 1) else false
theorem fi_oa_t {tx pt : Nat → Int32} {n q k : Nat} (h : tx q = pt k) : fi_oa tx pt (n + 1) q k = fi_oa tx pt n (q + 1) (k + 1) := by
  simp only [fi_oa, if_pos h]
theorem fi_oa_f {tx pt : Nat → Int32} {n q k : Nat} (h : ¬ tx q = pt k) : fi_oa tx pt (n + 1) q k = false := by
  simp only [fi_oa, if_neg h]
def fi_oc (tx pt : Nat → Int32) (L : Nat → Nat) (a b q : Nat) : Bool := if b - a ≤ fi_rl L q then fi_oa tx pt (b - a) q a else false
theorem fi_oc_t {tx pt : Nat → Int32} {L : Nat → Nat} {a b q : Nat} (h : b - a ≤ fi_rl L q) : fi_oc tx pt L a b q = fi_oa tx pt (b - a) q a := if_pos h
theorem fi_oc_f {tx pt : Nat → Int32} {L : Nat → Nat} {a b q : Nat} (h : ¬ b - a ≤ fi_rl L q) : fi_oc tx pt L a b q = false := if_neg h
def fi_rk (tx : Nat → Int32) (D : Nat) (L : Nat → Nat) (r : Nat) : Int32 := fi_fo (fi_ok D L) (fun q s => .inr (match fi_bf tx L q r with | true => s + 1 | false => s)) (fun s => s) 320 0 0
def fi_ra (tx : Nat → Int32) (D : Nat) (L : Nat → Nat) (i : Int32) : Int32 := fi_fo (fi_ok D L) (fun q s => if fi_rk tx D L q = i then .inl (nI q) else .inr s) (fun _ => -1) 320 0 0
def fi_oi (tx pt : Nat → Int32) (D P : Nat) (L : Nat → Nat) (i : Int32) : Int32 := fi_fo (fi_ok D L) (fun q s => match fi_oc tx pt L 0 P q with | true => (if s = i then .inl (nI q) else .inr (s + 1)) | false => .inr s) (fun _ => -2) 320 0 0
def fi_po (tx pt : Nat → Int32) (D : Nat) (L : Nat → Nat) (a b : Nat) : Int32 := fi_fo (fi_ok D L) (fun q s => match fi_oc tx pt L a b q with | true => .inl 1 | false => .inr s) (fun _ => 0) 320 0 0
def fi_ld (tx pt : Nat → Int32) (D P : Nat) (L : Nat → Nat) (c : Int32) : Int32 := fi_fo (fi_ok D L) (fun q s => if tx q = c then (match fi_oc tx pt L 0 P (q + 1) with | true => .inl 1 | false => .inr s) else .inr s) (fun _ => 0) 320 0 0
def fi_mx (s x : Int32) : Int32 := if x ≤ s then s else x
theorem fi_mx_l {s x : Int32} (h : x ≤ s) : fi_mx s x = s := if_pos h
theorem fi_mx_g {s x : Int32} (h : ¬ x ≤ s) : fi_mx s x = x := if_neg h
def fi_se (tx : Nat → Int32) (L : Nat → Nat) (Q : Nat) : Int32 := fi_fo (fi_ok (Q / 64 + 1) L) (fun q s => if q < Q then .inr (fi_mx s (nI (fi_sh tx L q Q))) else .inr s) (fun s => s) 320 0 0
def fi_re (tx : Nat → Int32) (D : Nat) (L : Nat → Nat) : Int32 := fi_fo (fi_ok D L) (fun q s => .inr (fi_mx s (fi_se tx L q))) (fun s => s) 320 0 0
def fi_di (tx : Nat → Int32) (D : Nat) (L : Nat → Nat) : Int32 := fi_fo (fi_ok D L) (fun q s => .inr (s + (nI (fi_rl L q) - fi_se tx L q))) (fun s => s) 320 0 0
/-- at how many of the n positions from p on -/
def fi_ci (tx pt : Nat → Int32) (P : Nat) (L : Nat → Nat) (d : Nat) : Nat → Nat → Int32 → Int32
  | 0, _, s => s
  | n + 1, p, s => match fi_oc tx pt L 0 P (64 * d + p) with
    | true => fi_ci tx pt P L d n (p + 1) (s + 1)
    | false => fi_ci tx pt P L d n (p + 1) s
theorem fi_ci_t {tx pt : Nat → Int32} {P : Nat} {L : Nat → Nat} {d n p : Nat} {s : Int32} (h : fi_oc tx pt L 0 P (64 * d + p) = true) : fi_ci tx pt P L d (n + 1) p s = fi_ci tx pt P L d n (p + 1) (s + 1) := by
  simp only [fi_ci, h]
theorem fi_ci_f {tx pt : Nat → Int32} {P : Nat} {L : Nat → Nat} {d n p : Nat} {s : Int32} (h : fi_oc tx pt L 0 P (64 * d + p) = false) : fi_ci tx pt P L d (n + 1) p s = fi_ci tx pt P L d n (p + 1) s := by
  simp only [fi_ci, h]
def fi_cd (tx pt : Nat → Int32) (P : Nat) (L : Nat → Nat) (d : Nat) : Int32 := fi_ci tx pt P L d (L d) 0 0
/-- a sum, and a count, over the documents -/
def fi_cs (c : Nat → Int32) : Nat → Nat → Int32 → Int32
  | 0, _, s => s
  | n + 1, d, s => fi_cs c n (d + 1) (s + c d)
def fi_cp (c : Nat → Int32) : Nat → Nat → Int32 → Int32
  | 0, _, s => s
  | n + 1, d, s => fi_cp c n (d + 1) (if c d ≤ 0 then s else s + 1)
def fi_cz (c : Nat → Int32) : Nat → Nat → Int32 → Int32
  | 0, _, s => s
  | n + 1, d, s => fi_cz c n (d + 1) (if c d = 0 then s else s + 1)
/-- the greatest k, from n down, that c allows -/
def fi_lg (c : Nat → Int32) : Nat → Int32
  | 0 => 0
  | k + 1 => if c (k + 1) = 0 then fi_lg c k else nI (k + 1)

/-! the relation -/
def fi_up (L : Nat → Nat) (k x : Nat) : Nat → Nat := fun j => if j = k then x else L j
theorem fi_up_s {L : Nat → Nat} {k x : Nat} : fi_up L k x k = x := if_pos rfl
theorem fi_up_n {L : Nat → Nat} {k x j : Nat} (h : j ≠ k) : fi_up L k x j = L j := if_neg h
def fi_A (L : Nat → Nat) : Nat → Int32 := fun i => nI (L i)
theorem fi_Ac {L : Nat → Nat} {d : Nat} (h : d < 2 ^ 31) : fi_A L (nI d).toNatClampNeg = nI (L d) := by
  rw [nI_clamp h]
  rfl
theorem fi_A_up {L : Nat → Nat} {k x : Nat} : upd (fi_A L) k (nI x) = fi_A (fi_up L k x) := by
  funext j
  unfold fi_A upd fi_up
  by_cases h : j = k
  · rw [if_pos h, if_pos h]
  · rw [if_neg h, if_neg h]
def fi_inv (D T P : Nat) (L : Nat → Nat) (tx ty : Nat → Int32) : Prop :=
  (1 ≤ D ∧ D ≤ 5) ∧ (L 0 + L 1 + L 2 + L 3 + L 4 = T ∧ T ≤ 60) ∧ P ≤ 8 ∧ (∀ d, D ≤ d → L d = 0) ∧ (∀ d p, d < 5 → p < L d → ty (60 * d + p) = tx (64 * d + p))
theorem fi_5 {d : Nat} (h : d < 5) : d = 0 ∨ d = 1 ∨ d = 2 ∨ d = 3 ∨ d = 4 := by omega
theorem fi_LT {D T P : Nat} {L : Nat → Nat} {tx ty : Nat → Int32} (h : fi_inv D T P L tx ty) (d : Nat) : L d ≤ T := by
  obtain ⟨⟨h1, h2⟩, ⟨h3, h4⟩, h5, h6, h7⟩ := h
  by_cases hd : d < 5
  · rcases fi_5 hd with e | e | e | e | e <;> subst e <;> omega
  · rw [h6 d (by omega)]; omega
theorem fi_L60 {D T P : Nat} {L : Nat → Nat} {tx ty : Nat → Int32} (h : fi_inv D T P L tx ty) (d : Nat) : L d ≤ 60 := Nat.le_trans (fi_LT h d) h.2.1.2
theorem fi_tx {D T P : Nat} {L : Nat → Nat} {tx ty : Nat → Int32} (h : fi_inv D T P L tx ty) {d p : Nat} (hp : p < L d) : ty (60 * d + p) = tx (64 * d + p) := by
  have h7 := h.2.2.2.2
  have h6 := h.2.2.2.1
  have h2 := h.1.2
  by_cases hd : d < 5
  · exact h7 d p hd hp
  · rw [h6 d (by omega)] at hp; omega
theorem fi_sum {L : Nat → Nat} {k x T : Nat} (hk : k < 5) (h : L 0 + L 1 + L 2 + L 3 + L 4 = T) : fi_up L k x 0 + fi_up L k x 1 + fi_up L k x 2 + fi_up L k x 3 + fi_up L k x 4 + L k = T + x := by
  rcases fi_5 hk with e | e | e | e | e <;> subst e <;> simp [fi_up] <;> omega
/-- one symbol put at the end of the last document, on both sides -/
theorem fi_app {E T P : Nat} {L : Nat → Nat} {tx ty : Nat → Int32} (h : fi_inv (E + 1) T P L tx ty) (hT : T < 60) (c : Int32) : fi_inv (E + 1) (T + 1) P (fi_up L E (L E + 1)) (upd tx (64 * E + L E) c) (upd ty (60 * E + L E) c) := by
  have hLE := fi_LT h E
  have hL := fun d => fi_LT h d
  have htx := fun d p hp => fi_tx h (d := d) (p := p) hp
  obtain ⟨⟨h1, h2⟩, ⟨h3, h4⟩, h5, h6, h7⟩ := h
  have hs := fi_sum (L := L) (k := E) (x := L E + 1) (by omega) h3
  refine ⟨⟨h1, h2⟩, ⟨by omega, by omega⟩, h5, fun d hd => ?_, fun d p hd hp => ?_⟩
  · rw [fi_up_n (by omega)]; exact h6 d hd
  · by_cases e : d = E
    · subst e
      rw [fi_up_s] at hp
      by_cases e2 : p = L d
      · subst e2; rw [pk_us, pk_us]
      · rw [pk_un (by omega), pk_un (by omega)]; exact htx d p (by omega)
    · rw [fi_up_n e] at hp
      have := hL d
      rw [pk_un (by omega), pk_un (by omega)]; exact htx d p hp
/-- the last document's length set to x, not above what it was -/
theorem fi_cutL {E T P x : Nat} {L : Nat → Nat} {tx ty : Nat → Int32} (h : fi_inv (E + 1) T P L tx ty) (hx : x ≤ L E) : fi_inv (E + 1) (T - L E + x) P (fi_up L E x) tx ty := by
  have hLE := fi_LT h E
  have htx := fun d p hp => fi_tx h (d := d) (p := p) hp
  obtain ⟨⟨h1, h2⟩, ⟨h3, h4⟩, h5, h6, h7⟩ := h
  have hs := fi_sum (L := L) (k := E) (x := x) (by omega) h3
  refine ⟨⟨h1, h2⟩, ⟨by omega, by omega⟩, h5, fun d hd => ?_, fun d p hd hp => ?_⟩
  · rw [fi_up_n (by omega)]; exact h6 d hd
  · by_cases e : d = E
    · subst e
      rw [fi_up_s] at hp
      exact htx d p (by omega)
    · rw [fi_up_n e] at hp
      exact htx d p hp
end
section
/-! the component's questions: each answers the pure value -/
section
variable {D T P : Nat} {L : Nat → Nat} {tx ty pt : Nat → Int32}
theorem fx_isSym_n {post : Int32 → Prop} {x : Int32} (hx : x < 0) (h : post 0) : wpX_isSymbol post (nI D, nI T, nI P, tx, fi_A L, pt) x := br_t hx h
theorem fx_isSym {post : Int32 → Prop} {j : Nat} (hj : j < 2 ^ 31) (h1 : j < 5 → post 1) (h0 : ¬ j < 5 → post 0) : wpX_isSymbol post (nI D, nI T, nI P, tx, fi_A L, pt) (nI j) :=
  br_f (nI_pos hj) (pk_le 5 j (fun g => h0 (by omega)) (fun g => h1 g))
theorem fx_isDoc_n {post : Int32 → Prop} {x : Int32} (hx : x < 0) (h : post 0) : wpX_isDocument post (nI D, nI T, nI P, tx, fi_A L, pt) x := br_t hx h
theorem fx_isDoc {post : Int32 → Prop} {d : Nat} (H : fi_inv D T P L tx ty) (hd : d < 2 ^ 31) (h1 : d < D → post 1) (h0 : ¬ d < D → post 0) : wpX_isDocument post (nI D, nI T, nI P, tx, fi_A L, pt) (nI d) :=
  have hD := H.1.2
  br_f (nI_pos hd) (pk_le D d (fun g => h0 (by omega)) (fun g => h1 g))
theorem fx_isPlace_n {post : Int32 → Prop} {x : Int32} (hx : x < 0) (h : post 0) : wpX_isPlace post (nI D, nI T, nI P, tx, fi_A L, pt) x := br_t hx h
theorem fx_isPlace {post : Int32 → Prop} {q : Nat} (H : fi_inv D T P L tx ty) (hq : q < 2 ^ 31) (h1 : fi_ok D L q = true → post 1) (h0 : fi_ok D L q = false → post 0) : wpX_isPlace post (nI D, nI T, nI P, tx, fi_A L, pt) (nI q) := by
  have hD := H.1.2
  have hl := fi_L60 H (q / 64)
  unfold wpX_isPlace
  refine br_f (nI_pos hq) ⟨fi_640, ?_⟩
  rw [fi_r64' hq, fi_d64 hq]
  refine fx_isDoc H (by omega) (fun hd => ?_) (fun hd => ?_)
  · refine br_f fi_10 ⟨fi_640, fi_640, pk_in (q / 64) 5 (by omega), ?_⟩
    exact pk_le (L (q / 64)) (q % 64) (fun g => h0 (fi_ok_f (by omega))) (fun g => h1 (fi_ok_i hd g)) (fi_Ac (by omega)) rfl (by omega) (by omega)
  · exact br_t rfl (h0 (fi_ok_f (by omega)))
theorem fx_rest {post : Int32 → Prop} {q : Nat} (hq : q / 64 < 5) (hm : q % 64 ≤ L (q / 64)) (h : post (nI (fi_rl L q))) : wpX_restLength post (nI D, nI T, nI P, tx, fi_A L, pt) (nI q) := by
  have hq2 : q < 2 ^ 31 := by omega
  have e : nI (L (q / 64)) - nI (q % 64) = nI (fi_rl L q) := pk_sub hm
  unfold wpX_restLength
  dsimp only
  rw [fi_r64' hq2, fi_d64 hq2, fi_Ac (by omega), e]
  exact ⟨fi_640, pk_in (q / 64) 5 hq, fi_640, h⟩
theorem fx_poa_l {post : Int32 → Prop} {a b q : Nat} (hb : b ≤ 8) (hq : q + b ≤ 320 + a) : ∀ m n k, k + m = b → a ≤ k → m < n → post (fi_b (fi_oa tx pt m (q + k - a) k)) → wX_partOccursAt_16 post (nI a) (nI b) (nI q) (nI D) (nI T) (nI P) tx (fi_A L) pt n (nI k) := by
  intro m
  induction m with
  | zero =>
    intro n k h1 h2 h3 h
    obtain ⟨n, rfl⟩ : ∃ j, n = j + 1 := ⟨n - 1, by omega⟩
    rw [wX_partOccursAt_16]
    exact pk_le b k (fun _ => h) (fun g => absurd g (by omega))
  | succ m ih =>
    intro n k h1 h2 h3 h
    obtain ⟨n, rfl⟩ : ∃ j, n = j + 1 := ⟨n - 1, by omega⟩
    have e : nI q + nI k - nI a = nI (q + k - a) := by rw [nI_add, pk_sub (by omega)]
    rw [wX_partOccursAt_16]
    refine pk_le b k (fun g => absurd g (by omega)) (fun _ => ?_)
    rw [e, nI_clamp (n := q + k - a) (by omega), nI_clamp (n := k) (by omega)]
    refine ⟨pk_in (q + k - a) 320 (by omega), pk_in k 8 (by omega), ?_⟩
    by_cases c : tx (q + k - a) = pt k
    · rw [fi_oa_t c] at h
      refine br_t c (nm_r (nI_1 k) (ih n (k + 1) (by omega) (by omega) (by omega) ?_))
      rw [show q + (k + 1) - a = q + k - a + 1 by omega]
      exact h
    · exact br_f c (fi_pf h (fi_oa_f c))
theorem fx_poa {post : Int32 → Prop} {a b q : Nat} (H : fi_inv D T P L tx ty) (hab : a ≤ b) (hb : b ≤ 8) (hq : q / 64 < 5) (hm : q % 64 ≤ L (q / 64)) (h : post (fi_b (fi_oc tx pt L a b q))) : wpX_partOccursAt post (nI D, nI T, nI P, tx, fi_A L, pt) (nI a) (nI b) (nI q) := by
  have hl := fi_L60 H (q / 64)
  have hr : fi_rl L q = L (q / 64) - q % 64 := rfl
  unfold wpX_partOccursAt
  refine fx_rest hq hm ?_
  refine pk_le (b - a) (fi_rl L q) (fun g => ⟨b - a + 1, ?_⟩) (fun g => fi_pf h (fi_oc_f (by omega))) (pk_sub hab) rfl (by omega) (by omega)
  rw [fi_oc_t g] at h
  refine fx_poa_l hb (by omega) (b - a) (b - a + 1) a (by omega) (by omega) (by omega) ?_
  rw [show q + a - a = q by omega]
  exact h
theorem fx_occ_l {post : Int32 → Prop} {d : Nat} (H : fi_inv D T P L tx ty) (hd : d < 5) : ∀ m n p s, p + m = L d → m < n → post (fi_ci tx pt P L d m p s) → wX_occurrencesIn_4 post (nI d) (nI D) (nI T) (nI P) tx (fi_A L) pt n s (nI p) := by
  have hl := fi_L60 H d
  have hP := H.2.2.1
  intro m
  induction m with
  | zero =>
    intro n p s h1 h2 h
    obtain ⟨n, rfl⟩ : ∃ j, n = j + 1 := ⟨n - 1, by omega⟩
    rw [wX_occurrencesIn_4]
    exact ⟨pk_in d 5 hd, pk_le (L d) p (fun _ => h) (fun g => absurd g (by omega)) (fi_Ac (by omega)) rfl (by omega) (by omega)⟩
  | succ m ih =>
    intro n p s h1 h2 h
    obtain ⟨n, rfl⟩ : ∃ j, n = j + 1 := ⟨n - 1, by omega⟩
    rw [wX_occurrencesIn_4]
    refine ⟨pk_in d 5 hd, pk_le (L d) p (fun g => absurd g (by omega)) (fun _ => ?_) (fi_Ac (by omega)) rfl (by omega) (by omega)⟩
    rw [fi_m64, nI_add]
    refine fx_poa (a := 0) (b := P) (q := 64 * d + p) H (by omega) hP (by omega) (by rw [fi_dv (by omega), fi_md (by omega)]; omega) ?_
    refine fi_br (fun e => nm_r (nI_1 p) (ih n (p + 1) s (by omega) (by omega) ?_)) (fun e => nm_e (nm_r (nI_1 p) (ih n (p + 1) (s + 1) (by omega) (by omega) ?_)))
    · rw [fi_ci_f e] at h; exact h
    · rw [fi_ci_t e] at h; exact h
theorem fx_occ {post : Int32 → Prop} {d : Nat} (H : fi_inv D T P L tx ty) (hd : d < 5) (h : post (fi_cd tx pt P L d)) : wpX_occurrencesIn post (nI D, nI T, nI P, tx, fi_A L, pt) (nI d) :=
  ⟨L d + 1, fx_occ_l H hd (L d) (L d + 1) 0 0 (by omega) (by omega) h⟩
theorem fx_cnt_l {post : Int32 → Prop} (H : fi_inv D T P L tx ty) : ∀ m n d s, d + m = D → m < n → post (fi_cs (fi_cd tx pt P L) m d s) → wX_count_13 post (nI D) (nI T) (nI P) tx (fi_A L) pt n s (nI d) := by
  have hD := H.1.2
  intro m
  induction m with
  | zero =>
    intro n d s h1 h2 h
    obtain ⟨n, rfl⟩ : ∃ j, n = j + 1 := ⟨n - 1, by omega⟩
    rw [wX_count_13]
    exact pk_le D d (fun _ => h) (fun g => absurd g (by omega))
  | succ m ih =>
    intro n d s h1 h2 h
    obtain ⟨n, rfl⟩ : ∃ j, n = j + 1 := ⟨n - 1, by omega⟩
    rw [wX_count_13]
    refine pk_le D d (fun g => absurd g (by omega)) (fun _ => ?_)
    exact fx_occ H (by omega) (nm_e (nm_r (nI_1 d) (ih n (d + 1) _ (by omega) (by omega) h)))
theorem fx_count {post : Int32 → Prop} (H : fi_inv D T P L tx ty) (h0 : P = 0 → post (-1)) (h1 : ¬ P = 0 → post (fi_cs (fi_cd tx pt P L) D 0 0)) : wpX_count post (nI D, nI T, nI P, tx, fi_A L, pt) :=
  have hP := H.2.2.1
  pk_eq P 0 h0 (fun g => ⟨D + 1, fx_cnt_l H D (D + 1) 0 0 (by omega) (by omega) (h1 g)⟩)
theorem fx_spr_l {post : Int32 → Prop} (H : fi_inv D T P L tx ty) : ∀ m n d s, d + m = D → m < n → post (fi_cp (fi_cd tx pt P L) m d s) → wX_spread_13 post (nI D) (nI T) (nI P) tx (fi_A L) pt n s (nI d) := by
  have hD := H.1.2
  intro m
  induction m with
  | zero =>
    intro n d s h1 h2 h
    obtain ⟨n, rfl⟩ : ∃ j, n = j + 1 := ⟨n - 1, by omega⟩
    rw [wX_spread_13]
    exact pk_le D d (fun _ => h) (fun g => absurd g (by omega))
  | succ m ih =>
    intro n d s h1 h2 h
    obtain ⟨n, rfl⟩ : ∃ j, n = j + 1 := ⟨n - 1, by omega⟩
    rw [wX_spread_13]
    refine pk_le D d (fun g => absurd g (by omega)) (fun _ => ?_)
    rw [fi_cp] at h
    refine fx_occ H (by omega) (br_c (fun c => nm_r (nI_1 d) (ih n (d + 1) _ (by omega) (by omega) ?_)) (fun c => nm_e (nm_r (nI_1 d) (ih n (d + 1) _ (by omega) (by omega) ?_))))
    · rw [if_pos c] at h; exact h
    · rw [if_neg c] at h; exact h
theorem fx_spread {post : Int32 → Prop} (H : fi_inv D T P L tx ty) (h0 : P = 0 → post (-1)) (h1 : ¬ P = 0 → post (fi_cp (fi_cd tx pt P L) D 0 0)) : wpX_spread post (nI D, nI T, nI P, tx, fi_A L, pt) :=
  have hP := H.2.2.1
  pk_eq P 0 h0 (fun g => ⟨D + 1, fx_spr_l H D (D + 1) 0 0 (by omega) (by omega) (h1 g)⟩)
theorem fx_sh_l {post : Int32 → Prop} {a b q r M : Nat} (hM : M ≤ 60) (ha : M ≤ a) (hb : M ≤ b) (hab : M = a ∨ M = b) (hq : q + M ≤ 320) (hr : r + M ≤ 320) : ∀ m n k, k + m = M → m < n → post (nI (fi_sp tx a b q r (60 - k) k)) → wX_sharedLength_30 post (nI q) (nI r) (nI M) (nI D) (nI T) (nI P) tx (fi_A L) pt n (nI k) := by
  intro m
  induction m with
  | zero =>
    intro n k h1 h2 h
    obtain ⟨n, rfl⟩ : ∃ j, n = j + 1 := ⟨n - 1, by omega⟩
    rw [fi_sp_stop (by omega)] at h
    rw [wX_sharedLength_30]
    have e : k = M := by omega
    subst e
    exact pk_le k k (fun _ => h) (fun g => absurd g (by omega))
  | succ m ih =>
    intro n k h1 h2 h
    obtain ⟨n, rfl⟩ : ∃ j, n = j + 1 := ⟨n - 1, by omega⟩
    rw [wX_sharedLength_30]
    refine pk_le M k (fun g => absurd g (by omega)) (fun _ => ?_)
    rw [nI_add, nI_add, nI_clamp (n := q + k) (by omega), nI_clamp (n := r + k) (by omega)]
    refine ⟨pk_in (q + k) 320 (by omega), pk_in (r + k) 320 (by omega), ?_⟩
    by_cases c : tx (q + k) = tx (r + k)
    · rw [show 60 - k = 60 - (k + 1) + 1 by omega, fi_sp_go ⟨by omega, by omega, c⟩] at h
      exact br_t c (nm_r (nI_1 k) (ih n (k + 1) (by omega) (by omega) h))
    · rw [fi_sp_stop (fun z => c z.2.2)] at h
      exact br_f c h
theorem fx_sh {post : Int32 → Prop} {q r : Nat} (H : fi_inv D T P L tx ty) (hq : q / 64 < 5) (hm : q % 64 ≤ L (q / 64)) (hr : r / 64 < 5) (hn : r % 64 ≤ L (r / 64)) (h : post (nI (fi_sh tx L q r))) : wpX_sharedLength post (nI D, nI T, nI P, tx, fi_A L, pt) (nI q) (nI r) := by
  have hl := fi_L60 H (q / 64)
  have hl2 := fi_L60 H (r / 64)
  have e1 : fi_rl L q = L (q / 64) - q % 64 := rfl
  have e2 : fi_rl L r = L (r / 64) - r % 64 := rfl
  unfold wpX_sharedLength
  refine fx_rest hq hm ?_
  refine fx_rest hr hn ?_
  refine pk_le (fi_rl L r) (fi_rl L q) (fun g => ⟨fi_rl L r + 1, ?_⟩) (fun g => ⟨fi_rl L q + 1, ?_⟩)
  · exact fx_sh_l (a := fi_rl L q) (b := fi_rl L r) (by omega) (by omega) (by omega) (by omega) (by omega) (by omega) (fi_rl L r) (fi_rl L r + 1) 0 (by omega) (by omega) h
  · exact fx_sh_l (a := fi_rl L q) (b := fi_rl L r) (by omega) (by omega) (by omega) (by omega) (by omega) (by omega) (fi_rl L q) (fi_rl L q + 1) 0 (by omega) (by omega) h
theorem fx_58 {post : Int32 → Prop} {a b q r : Nat} (ha : a < 2 ^ 31) (hb : b < 2 ^ 31) (hq : q < 2 ^ 31) (hr : r < 2 ^ 31) (he : a = b → post (fi_b (decide (q < r)))) (hn : ¬ a = b → post (fi_b (decide (a < b)))) : wX_comesBefore_58 post (nI q) (nI r) (nI a) (nI b) (nI D) (nI T) (nI P) tx (fi_A L) pt :=
  pk_eq a b
    (fun e => pk_le r q (fun g => fi_pf (he e) (decide_eq_false (by omega))) (fun g => fi_pt (he e) (decide_eq_true g)))
    (fun e => pk_le b a (fun g => fi_pf (hn e) (decide_eq_false (by omega))) (fun g => fi_pt (hn e) (decide_eq_true g)))
theorem fx_bf {post : Int32 → Prop} {q r : Nat} (H : fi_inv D T P L tx ty) (hq : q / 64 < 5) (hm : q % 64 ≤ L (q / 64)) (hr : r / 64 < 5) (hn : r % 64 ≤ L (r / 64)) (h : post (fi_b (fi_bf tx L q r))) : wpX_comesBefore post (nI D, nI T, nI P, tx, fi_A L, pt) (nI q) (nI r) := by
  have hl := fi_L60 H (q / 64)
  have hl2 := fi_L60 H (r / 64)
  have e1 : fi_rl L q = L (q / 64) - q % 64 := rfl
  have e2 : fi_rl L r = L (r / 64) - r % 64 := rfl
  have hs := fi_sh_le tx L q r
  unfold fi_bf at h
  unfold wpX_comesBefore
  refine fx_sh H hq hm hr hn ?_
  refine fx_rest hq hm ?_
  refine fx_rest hr hn ?_
  refine pk_le (fi_rl L q) (fi_sh tx L q r) (fun g => ?_) (fun g => pk_le (fi_rl L r) (fi_sh tx L q r) (fun g2 => ?_) (fun g2 => ?_))
  · refine fx_58 (by omega) (by omega) (by omega) (by omega) (fun e => ?_) (fun e => ?_)
    · rw [fi_bs_e (by omega) e] at h; exact h
    · rw [fi_bs_n (by omega) e] at h; exact h
  · refine fx_58 (by omega) (by omega) (by omega) (by omega) (fun e => ?_) (fun e => ?_)
    · rw [fi_bs_e (by omega) e] at h; exact h
    · rw [fi_bs_n (by omega) e] at h; exact h
  · rw [fi_bs_l ⟨g, g2⟩] at h
    rw [nI_add, nI_add, nI_clamp (n := q + fi_sh tx L q r) (by omega), nI_clamp (n := r + fi_sh tx L q r) (by omega)]
    refine ⟨pk_in (q + fi_sh tx L q r) 320 (by omega), pk_in (r + fi_sh tx L q r) 320 (by omega), ?_⟩
    exact br_c (fun c => fi_pf h (decide_eq_false (fun z => z c))) (fun c => fi_pt h (decide_eq_true c))
end
end
section
/-! the component's questions that walk over all numbers below 320 -/
section
variable {D T P : Nat} {L : Nat → Nat} {tx ty pt : Nat → Int32}
theorem fi_okl {q : Nat} (H : fi_inv D T P L tx ty) (e : fi_ok D L q = true) : q / 64 < 5 ∧ q % 64 ≤ L (q / 64) ∧ q % 64 < L (q / 64) := by
  have h := fi_ok_t e
  have hD := H.1.2
  omega
theorem fx_occurrence {post : Int32 → Prop} {i : Int32} (H : fi_inv D T P L tx ty) (h0 : P = 0 → post (-1)) (h1 : ¬ P = 0 → post (fi_oi tx pt D P L i)) : wpX_occurrence post (nI D, nI T, nI P, tx, fi_A L, pt) i := by
  have hP := H.2.2.1
  refine pk_eq P 0 h0 (fun g => ⟨321, ?_⟩)
  refine fi_X (fun n q s => wX_occurrence_13 post i (nI D) (nI T) (nI P) tx (fi_A L) pt n s (nI q)) post 320 (fi_ok D L) (fun q s => match fi_oc tx pt L 0 P q with | true => (if s = i then .inl (nI q) else .inr (s + 1)) | false => .inr s) (fun _ => -2) ?_ ?_ 320 321 0 0 rfl (by decide) (h1 g)
  · intro n s h
    rw [wX_occurrence_13]
    exact pk_le 320 320 (fun _ => h) (fun g => absurd g (by omega))
  · intro n q s hq k0 k1 k2
    rw [wX_occurrence_13]
    refine pk_le 320 q (fun g => absurd g (by omega)) (fun _ => ?_)
    refine fx_isPlace H (by omega) (fun e => br_f fi_10 ?_) (fun e => br_t rfl (nm_r (nI_1 q) (k0 e)))
    have hk := fi_okl H e
    refine fx_poa (a := 0) (b := P) H (by omega) hP hk.1 hk.2.1 (fi_br (fun c => nm_r (nI_1 q) (k2 s e (by rw [c]))) (fun c => br_c (fun z => k1 _ e (by rw [c]; exact if_pos z)) (fun z => nm_e (nm_r (nI_1 q) (k2 _ e (by rw [c]; exact if_neg z))))))
theorem fx_po {post : Int32 → Prop} {a b : Nat} (H : fi_inv D T P L tx ty) (hab : a ≤ b) (hb : b ≤ 8) (h : post (fi_po tx pt D L a b)) : wpX_partOccurs post (nI D, nI T, nI P, tx, fi_A L, pt) (nI a) (nI b) := by
  refine ⟨321, ?_⟩
  refine fi_X (fun n q _ => wX_partOccurs_2 post (nI a) (nI b) (nI D) (nI T) (nI P) tx (fi_A L) pt n (nI q)) post 320 (fi_ok D L) (fun q s => match fi_oc tx pt L a b q with | true => .inl 1 | false => .inr s) (fun _ => 0) ?_ ?_ 320 321 0 0 rfl (by decide) h
  · intro n s h
    rw [wX_partOccurs_2]
    exact pk_le 320 320 (fun _ => h) (fun g => absurd g (by omega))
  · intro n q s hq k0 k1 k2
    rw [wX_partOccurs_2]
    refine pk_le 320 q (fun g => absurd g (by omega)) (fun _ => ?_)
    refine fx_isPlace H (by omega) (fun e => br_f fi_10 ?_) (fun e => br_t rfl (nm_r (nI_1 q) (k0 e)))
    have hk := fi_okl H e
    exact fx_poa H hab hb hk.1 hk.2.1 (fi_br (fun c => nm_r (nI_1 q) (k2 s e (by rw [c]))) (fun c => k1 _ e (by rw [c])))
theorem fx_le_l {post : Int32 → Prop} (H : fi_inv D T P L tx ty) : ∀ k n, k ≤ P → k < n → post (fi_lg (fun j => fi_po tx pt D L (P - j) P) k) → wX_longestEnd_5 post (nI D) (nI T) (nI P) tx (fi_A L) pt n (nI k) := by
  have hP := H.2.2.1
  intro k
  induction k with
  | zero =>
    intro n h1 h2 h
    obtain ⟨n, rfl⟩ : ∃ j, n = j + 1 := ⟨n - 1, by omega⟩
    rw [wX_longestEnd_5]
    exact pk_le 0 0 (fun _ => h) (fun g => absurd g (by omega))
  | succ k ih =>
    intro n h1 h2 h
    obtain ⟨n, rfl⟩ : ∃ j, n = j + 1 := ⟨n - 1, by omega⟩
    rw [wX_longestEnd_5]
    refine pk_le (k + 1) 0 (fun g => absurd g (by omega)) (fun _ => ?_)
    rw [pk_sub h1]
    rw [fi_lg] at h
    refine fx_po H (by omega) hP (br_c (fun c => nm_r (pk_m1 k) (ih n (by omega) (by omega) ?_)) (fun c => ?_))
    · rw [if_pos c] at h; exact h
    · rw [if_neg c] at h; exact h
theorem fx_longestEnd {post : Int32 → Prop} (H : fi_inv D T P L tx ty) (h : post (fi_lg (fun j => fi_po tx pt D L (P - j) P) P)) : wpX_longestEnd post (nI D, nI T, nI P, tx, fi_A L, pt) :=
  ⟨P + 1, fx_le_l H P (P + 1) (by omega) (by omega) h⟩
theorem fx_lb_l {post : Int32 → Prop} (H : fi_inv D T P L tx ty) : ∀ k n, k ≤ P → k < n → post (fi_lg (fun j => fi_po tx pt D L 0 j) k) → wX_longestBegin_5 post (nI D) (nI T) (nI P) tx (fi_A L) pt n (nI k) := by
  have hP := H.2.2.1
  intro k
  induction k with
  | zero =>
    intro n h1 h2 h
    obtain ⟨n, rfl⟩ : ∃ j, n = j + 1 := ⟨n - 1, by omega⟩
    rw [wX_longestBegin_5]
    exact pk_le 0 0 (fun _ => h) (fun g => absurd g (by omega))
  | succ k ih =>
    intro n h1 h2 h
    obtain ⟨n, rfl⟩ : ∃ j, n = j + 1 := ⟨n - 1, by omega⟩
    rw [wX_longestBegin_5]
    refine pk_le (k + 1) 0 (fun g => absurd g (by omega)) (fun _ => ?_)
    rw [fi_lg] at h
    refine fx_po (a := 0) (b := k + 1) H (by omega) (by omega) (br_c (fun c => nm_r (pk_m1 k) (ih n (by omega) (by omega) ?_)) (fun c => ?_))
    · rw [if_pos c] at h; exact h
    · rw [if_neg c] at h; exact h
theorem fx_longestBegin {post : Int32 → Prop} (H : fi_inv D T P L tx ty) (h : post (fi_lg (fun j => fi_po tx pt D L 0 j) P)) : wpX_longestBegin post (nI D, nI T, nI P, tx, fi_A L, pt) :=
  ⟨P + 1, fx_lb_l H P (P + 1) (by omega) (by omega) h⟩
theorem fx_rk {post : Int32 → Prop} {r : Nat} (H : fi_inv D T P L tx ty) (er : fi_ok D L r = true) (h : post (fi_rk tx D L r)) : wpX_restsBefore post (nI D, nI T, nI P, tx, fi_A L, pt) (nI r) := by
  have hr := fi_okl H er
  refine ⟨321, ?_⟩
  refine fi_X (fun n q s => wX_restsBefore_4 post (nI r) (nI D) (nI T) (nI P) tx (fi_A L) pt n s (nI q)) post 320 (fi_ok D L) (fun q s => .inr (match fi_bf tx L q r with | true => s + 1 | false => s)) (fun s => s) ?_ ?_ 320 321 0 0 rfl (by decide) h
  · intro n s h
    rw [wX_restsBefore_4]
    exact pk_le 320 320 (fun _ => h) (fun g => absurd g (by omega))
  · intro n q s hq k0 k1 k2
    rw [wX_restsBefore_4]
    refine pk_le 320 q (fun g => absurd g (by omega)) (fun _ => ?_)
    refine fx_isPlace H (by omega) (fun e => br_f fi_10 ?_) (fun e => br_t rfl (nm_r (nI_1 q) (k0 e)))
    have hk := fi_okl H e
    exact fx_bf H hk.1 hk.2.1 hr.1 hr.2.1 (fi_br (fun c => nm_r (nI_1 q) (k2 s e (by rw [c]))) (fun c => nm_e (nm_r (nI_1 q) (k2 (s + 1) e (by rw [c])))))
theorem fx_ranked {post : Int32 → Prop} {i : Int32} (H : fi_inv D T P L tx ty) (h : post (fi_ra tx D L i)) : wpX_ranked post (nI D, nI T, nI P, tx, fi_A L, pt) i := by
  refine ⟨321, ?_⟩
  refine fi_X (fun n q _ => wX_ranked_2 post i (nI D) (nI T) (nI P) tx (fi_A L) pt n (nI q)) post 320 (fi_ok D L) (fun q s => if fi_rk tx D L q = i then .inl (nI q) else .inr s) (fun _ => -1) ?_ ?_ 320 321 0 0 rfl (by decide) h
  · intro n s h
    rw [wX_ranked_2]
    exact pk_le 320 320 (fun _ => h) (fun g => absurd g (by omega))
  · intro n q s hq k0 k1 k2
    rw [wX_ranked_2]
    refine pk_le 320 q (fun g => absurd g (by omega)) (fun _ => ?_)
    refine fx_isPlace H (by omega) (fun e => br_f fi_10 ?_) (fun e => br_t rfl (nm_r (nI_1 q) (k0 e)))
    exact fx_rk H e (br_c (fun c => k1 _ e (if_pos c)) (fun c => nm_r (nI_1 q) (k2 s e (if_neg c))))
theorem fi_ok_eq {q Q : Nat} (h : q < Q) (hQ : Q / 64 < D) : fi_ok D L q = fi_ok (Q / 64 + 1) L q := by
  have h1 : q / 64 < D := by omega
  have h2 : q / 64 < Q / 64 + 1 := by omega
  unfold fi_ok
  rw [decide_eq_true h1, decide_eq_true h2]
theorem fx_se {post : Int32 → Prop} {Q : Nat} (H : fi_inv D T P L tx ty) (eQ : fi_ok D L Q = true) (h : post (fi_se tx L Q)) : wpX_longestSharedEarlier post (nI D, nI T, nI P, tx, fi_A L, pt) (nI Q) := by
  have hQ := fi_okl H eQ
  have hQ2 := fi_ok_t eQ
  have hl := fi_L60 H (Q / 64)
  unfold fi_se at h
  rw [show (320 : Nat) = Q + (320 - Q) by omega, fi_cut _ _ _ Q (320 - Q) 0 0 (fun j t hj => if_neg (by omega))] at h
  refine ⟨Q + 1, ?_⟩
  refine fi_X (fun n q s => wX_longestSharedEarlier_4 post (nI Q) (nI D) (nI T) (nI P) tx (fi_A L) pt n s (nI q)) post Q (fi_ok (Q / 64 + 1) L) (fun q s => if q < Q then .inr (fi_mx s (nI (fi_sh tx L q Q))) else .inr s) (fun s => s) ?_ ?_ Q (Q + 1) 0 0 (by omega) (by omega) h
  · intro n s h
    rw [wX_longestSharedEarlier_4]
    exact pk_le Q Q (fun _ => h) (fun g => absurd g (by omega))
  · intro n q s hq k0 k1 k2
    rw [wX_longestSharedEarlier_4]
    refine pk_le Q q (fun g => absurd g (by omega)) (fun _ => ?_)
    have hoq := fi_ok_eq (L := L) hq hQ2.1
    refine fx_isPlace H (by omega) (fun e => br_f fi_10 ?_) (fun e => br_t rfl (nm_r (nI_1 q) (k0 (hoq.symm.trans e))))
    have hk := fi_okl H e
    have e' := hoq.symm.trans e
    refine fx_sh H hQ.1 hQ.2.1 hk.1 hk.2.1 ?_
    rw [fi_sh_sym tx L Q q]
    exact br_c (fun c => nm_r (nI_1 q) (k2 s e' (by rw [if_pos hq, fi_mx_l c]))) (fun c => nm_r (nI_1 q) (k2 _ e' (by rw [if_pos hq, fi_mx_g c])))
theorem fx_repeated {post : Int32 → Prop} (H : fi_inv D T P L tx ty) (h : post (fi_re tx D L)) : wpX_repeated post (nI D, nI T, nI P, tx, fi_A L, pt) := by
  refine ⟨321, ?_⟩
  refine fi_X (fun n q s => wX_repeated_4 post (nI D) (nI T) (nI P) tx (fi_A L) pt n s (nI q)) post 320 (fi_ok D L) (fun q s => .inr (fi_mx s (fi_se tx L q))) (fun s => s) ?_ ?_ 320 321 0 0 rfl (by decide) h
  · intro n s h
    rw [wX_repeated_4]
    exact pk_le 320 320 (fun _ => h) (fun g => absurd g (by omega))
  · intro n q s hq k0 k1 k2
    rw [wX_repeated_4]
    refine pk_le 320 q (fun g => absurd g (by omega)) (fun _ => ?_)
    refine fx_isPlace H (by omega) (fun e => br_f fi_10 ?_) (fun e => br_t rfl (nm_r (nI_1 q) (k0 e)))
    exact fx_se H e (br_c (fun c => nm_r (nI_1 q) (k2 s e (by rw [fi_mx_l c]))) (fun c => nm_r (nI_1 q) (k2 _ e (by rw [fi_mx_g c]))))
theorem fx_different {post : Int32 → Prop} (H : fi_inv D T P L tx ty) (h : post (fi_di tx D L)) : wpX_different post (nI D, nI T, nI P, tx, fi_A L, pt) := by
  refine ⟨321, ?_⟩
  refine fi_X (fun n q s => wX_different_4 post (nI D) (nI T) (nI P) tx (fi_A L) pt n s (nI q)) post 320 (fi_ok D L) (fun q s => .inr (s + (nI (fi_rl L q) - fi_se tx L q))) (fun s => s) ?_ ?_ 320 321 0 0 rfl (by decide) h
  · intro n s h
    rw [wX_different_4]
    exact pk_le 320 320 (fun _ => h) (fun g => absurd g (by omega))
  · intro n q s hq k0 k1 k2
    rw [wX_different_4]
    refine pk_le 320 q (fun g => absurd g (by omega)) (fun _ => ?_)
    refine fx_isPlace H (by omega) (fun e => br_f fi_10 ?_) (fun e => br_t rfl (nm_r (nI_1 q) (k0 e)))
    have hk := fi_okl H e
    exact fx_rest hk.1 hk.2.1 (fx_se H e (nm_e (nm_r (nI_1 q) (k2 _ e rfl))))
theorem fx_ld {post : Int32 → Prop} {c : Int32} (H : fi_inv D T P L tx ty) (h : post (fi_ld tx pt D P L c)) : wpX_extensionOccurs post (nI D, nI T, nI P, tx, fi_A L, pt) c := by
  have hP := H.2.2.1
  refine ⟨321, ?_⟩
  refine fi_X (fun n q _ => wX_extensionOccurs_2 post c (nI D) (nI T) (nI P) tx (fi_A L) pt n (nI q)) post 320 (fi_ok D L) (fun q s => if tx q = c then (match fi_oc tx pt L 0 P (q + 1) with | true => .inl 1 | false => .inr s) else .inr s) (fun _ => 0) ?_ ?_ 320 321 0 0 rfl (by decide) h
  · intro n s h
    rw [wX_extensionOccurs_2]
    exact pk_le 320 320 (fun _ => h) (fun g => absurd g (by omega))
  · intro n q s hq k0 k1 k2
    rw [wX_extensionOccurs_2]
    refine pk_le 320 q (fun g => absurd g (by omega)) (fun _ => ?_)
    refine fx_isPlace H (by omega) (fun e => br_f fi_10 ?_) (fun e => br_t rfl (nm_r (nI_1 q) (k0 e)))
    have hk := fi_okl H e
    have hl := fi_L60 H (q / 64)
    have a1 : (q + 1) / 64 = q / 64 := by omega
    have a2 : (q + 1) % 64 = q % 64 + 1 := by omega
    rw [nI_clamp (n := q) (by omega), nI_1 q]
    refine ⟨pk_in q 320 (by omega), br_c (fun z => ?_) (fun z => nm_e (k2 s e (if_neg z)))⟩
    refine fx_poa (a := 0) (b := P) (q := q + 1) H (by omega) hP (by omega) (by rw [a1, a2]; omega) (fi_br (fun b => nm_e (k2 s e (by rw [if_pos z, b]))) (fun b => k1 _ e (by rw [if_pos z, b])))
theorem fx_ext_l {post : Int32 → Prop} (H : fi_inv D T P L tx ty) : ∀ m n c s, c + m = 5 → m < n → post (fi_cz (fun j => fi_ld tx pt D P L (nI j)) m c s) → wX_extensions_4 post (nI D) (nI T) (nI P) tx (fi_A L) pt n s (nI c) := by
  intro m
  induction m with
  | zero =>
    intro n c s h1 h2 h
    obtain ⟨n, rfl⟩ : ∃ j, n = j + 1 := ⟨n - 1, by omega⟩
    rw [wX_extensions_4]
    exact pk_le 5 c (fun _ => h) (fun g => absurd g (by omega))
  | succ m ih =>
    intro n c s h1 h2 h
    obtain ⟨n, rfl⟩ : ∃ j, n = j + 1 := ⟨n - 1, by omega⟩
    rw [wX_extensions_4]
    refine pk_le 5 c (fun g => absurd g (by omega)) (fun _ => ?_)
    rw [fi_cz] at h
    refine fx_ld H (br_c (fun z => nm_r (nI_1 c) (ih n (c + 1) _ (by omega) (by omega) ?_)) (fun z => nm_e (nm_r (nI_1 c) (ih n (c + 1) _ (by omega) (by omega) ?_))))
    · rw [if_pos z] at h; exact h
    · rw [if_neg z] at h; exact h
theorem fx_extensions {post : Int32 → Prop} (H : fi_inv D T P L tx ty) (h : post (fi_cz (fun j => fi_ld tx pt D P L (nI j)) 5 0 0)) : wpX_extensions post (nI D, nI T, nI P, tx, fi_A L, pt) :=
  ⟨6, fx_ext_l H 5 6 0 0 (by omega) (by omega) h⟩
end
end
section
/-! the reference's questions: each answers the same pure value -/
section
variable {D T P : Nat} {L : Nat → Nat} {tx ty pt : Nat → Int32}
theorem fy_badSym_n {post : Int32 → Prop} {x : Int32} (hx : x < 0) (h : post 1) : wpY_badSymbol post (nI D, nI T, nI P, ty, fi_A L, pt) x := br_t hx h
theorem fy_badSym {post : Int32 → Prop} {j : Nat} (hj : j < 2 ^ 31) (h0 : j < 5 → post 0) (h1 : ¬ j < 5 → post 1) : wpY_badSymbol post (nI D, nI T, nI P, ty, fi_A L, pt) (nI j) :=
  br_f (nI_pos hj) (pk_le j 4 (fun g => h0 (by omega)) (fun g => h1 (by omega)))
theorem fy_bad_n {post : Int32 → Prop} {x : Int32} (hx : x < 0) (h : post 1) : wpY_bad post (nI D, nI T, nI P, ty, fi_A L, pt) x := br_t hx h
theorem fy_bad {post : Int32 → Prop} {d : Nat} (H : fi_inv D T P L tx ty) (hd : d < 2 ^ 31) (h0 : d < D → post 0) (h1 : ¬ d < D → post 1) : wpY_bad post (nI D, nI T, nI P, ty, fi_A L, pt) (nI d) :=
  have hD := H.1.2
  br_f (nI_pos hd) (pk_le D d (fun g => h1 (by omega)) (fun g => pk_le d 4 (fun _ => h0 g) (fun z => absurd z (by omega))))
theorem fy_badPlace_n {post : Int32 → Prop} {x : Int32} (hx : x < 0) (h : post 1) : wpY_badPlace post (nI D, nI T, nI P, ty, fi_A L, pt) x := br_t hx h
theorem fy_badPlace {post : Int32 → Prop} {q : Nat} (H : fi_inv D T P L tx ty) (hq : q < 2 ^ 31) (h0 : fi_ok D L q = true → post 0) (h1 : fi_ok D L q = false → post 1) : wpY_badPlace post (nI D, nI T, nI P, ty, fi_A L, pt) (nI q) := by
  have hD := H.1.2
  have hl := fi_L60 H (q / 64)
  unfold wpY_badPlace
  refine br_f (nI_pos hq) ⟨fi_640, ?_⟩
  rw [fi_r64' hq, fi_d64 hq]
  refine fy_bad H (by omega) (fun hd => ?_) (fun hd => ?_)
  · refine br_t rfl ⟨fi_640, fi_640, pk_in (q / 64) 5 (by omega), ?_⟩
    exact pk_lt (q % 64) (L (q / 64)) (fun g => h0 (fi_ok_i hd g)) (fun g => h1 (fi_ok_f (by omega))) rfl (fi_Ac (by omega)) (by omega) (by omega)
  · exact br_f fi_10 (h1 (fi_ok_f (by omega)))
theorem fy_st_l {post : Int32 → Prop} {a b d p : Nat} (H : fi_inv D T P L tx ty) (hb : b ≤ 8) (hd : d < 5) (hp : p + b ≤ L d + a) : ∀ m n k, k + m = b → a ≤ k → m < n → post (fi_b (fi_oa tx pt m (64 * d + p + k - a) k)) → wY_stands_20 post (nI d) (nI p) (nI a) (nI b) (nI D) (nI T) (nI P) ty (fi_A L) pt n (nI k) := by
  have hl := fi_L60 H d
  intro m
  induction m with
  | zero =>
    intro n k h1 h2 h3 h
    obtain ⟨n, rfl⟩ : ∃ j, n = j + 1 := ⟨n - 1, by omega⟩
    rw [wY_stands_20]
    exact pk_le b k (fun _ => h) (fun g => absurd g (by omega))
  | succ m ih =>
    intro n k h1 h2 h3 h
    obtain ⟨n, rfl⟩ : ∃ j, n = j + 1 := ⟨n - 1, by omega⟩
    have e : 60 * nI d + nI p + nI k - nI a = nI (60 * d + (p + k - a)) := by
      rw [fi_m60, nI_add, nI_add, pk_sub (by omega)]
      exact congrArg nI (by omega)
    have ht : ty (60 * d + (p + k - a)) = tx (64 * d + p + k - a) := by
      rw [fi_tx H (by omega), show 64 * d + (p + k - a) = 64 * d + p + k - a by omega]
    rw [wY_stands_20]
    refine pk_le b k (fun g => absurd g (by omega)) (fun _ => pk_le 8 k (fun g => absurd g (by omega)) (fun _ => ?_))
    rw [e, nI_clamp (n := 60 * d + (p + k - a)) (by omega), nI_clamp (n := k) (by omega), ht]
    refine ⟨pk_in (60 * d + (p + k - a)) 300 (by omega), pk_in k 8 (by omega), ?_⟩
    by_cases c : tx (64 * d + p + k - a) = pt k
    · rw [fi_oa_t c] at h
      refine br_t c (nm_r (nI_1 k) (ih n (k + 1) (by omega) (by omega) (by omega) ?_))
      rw [show 64 * d + p + (k + 1) - a = 64 * d + p + k - a + 1 by omega]
      exact h
    · exact br_f c (fi_pf h (fi_oa_f c))
theorem fy_st {post : Int32 → Prop} {a b d p : Nat} (H : fi_inv D T P L tx ty) (hab : a ≤ b) (hb : b ≤ 8) (hd : d < 5) (hp : p ≤ L d) (h : post (fi_b (fi_oc tx pt L a b (64 * d + p)))) : wpY_stands post (nI D, nI T, nI P, ty, fi_A L, pt) (nI d) (nI p) (nI a) (nI b) := by
  have hl := fi_L60 H d
  have hr : fi_rl L (64 * d + p) = L d - p := fi_rl_dp (by omega)
  have e : nI p + nI b - nI a = nI (p + b - a) := by rw [nI_add, pk_sub (by omega)]
  unfold wpY_stands
  refine ⟨pk_in d 5 hd, pk_le (p + b - a) (L d) (fun g => ⟨b - a + 1, ?_⟩) (fun g => fi_pf h (fi_oc_f (by omega))) e (fi_Ac (by omega)) (by omega) (by omega)⟩
  rw [fi_oc_t (by omega)] at h
  refine fy_st_l H hb hd (by omega) (b - a) (b - a + 1) a (by omega) (by omega) (by omega) ?_
  rw [show 64 * d + p + a - a = 64 * d + p by omega]
  exact h
theorem fy_occ_l {post : Int32 → Prop} {d : Nat} (H : fi_inv D T P L tx ty) (hd : d < 5) : ∀ m n p s, p + m = L d → m < n → post (fi_ci tx pt P L d m p s) → wY_countOf_4 post (nI d) (nI D) (nI T) (nI P) ty (fi_A L) pt n s (nI p) := by
  have hl := fi_L60 H d
  have hP := H.2.2.1
  intro m
  induction m with
  | zero =>
    intro n p s h1 h2 h
    obtain ⟨n, rfl⟩ : ∃ j, n = j + 1 := ⟨n - 1, by omega⟩
    rw [wY_countOf_4]
    exact ⟨pk_in d 5 hd, pk_le (L d) p (fun _ => h) (fun g => absurd g (by omega)) (fi_Ac (by omega)) rfl (by omega) (by omega)⟩
  | succ m ih =>
    intro n p s h1 h2 h
    obtain ⟨n, rfl⟩ : ∃ j, n = j + 1 := ⟨n - 1, by omega⟩
    rw [wY_countOf_4]
    refine ⟨pk_in d 5 hd, pk_le (L d) p (fun g => absurd g (by omega)) (fun _ => ?_) (fi_Ac (by omega)) rfl (by omega) (by omega)⟩
    refine fy_st (a := 0) (b := P) (d := d) (p := p) H (by omega) hP hd (by omega) ?_
    refine fi_br (fun e => nm_r (nI_1 p) (ih n (p + 1) s (by omega) (by omega) ?_)) (fun e => nm_e (nm_r (nI_1 p) (ih n (p + 1) (s + 1) (by omega) (by omega) ?_)))
    · rw [fi_ci_f e] at h; exact h
    · rw [fi_ci_t e] at h; exact h
theorem fy_occ {post : Int32 → Prop} {d : Nat} (H : fi_inv D T P L tx ty) (hd : d < 5) (h : post (fi_cd tx pt P L d)) : wpY_countOf post (nI D, nI T, nI P, ty, fi_A L, pt) (nI d) :=
  ⟨L d + 1, fy_occ_l H hd (L d) (L d + 1) 0 0 (by omega) (by omega) h⟩
theorem fy_cnt_l {post : Int32 → Prop} (H : fi_inv D T P L tx ty) : ∀ m n d s, d + m = D → m < n → post (fi_cs (fi_cd tx pt P L) m d s) → wY_count_13 post (nI D) (nI T) (nI P) ty (fi_A L) pt n s (nI d) := by
  have hD := H.1.2
  intro m
  induction m with
  | zero =>
    intro n d s h1 h2 h
    obtain ⟨n, rfl⟩ : ∃ j, n = j + 1 := ⟨n - 1, by omega⟩
    rw [wY_count_13]
    exact pk_le D d (fun _ => h) (fun g => absurd g (by omega))
  | succ m ih =>
    intro n d s h1 h2 h
    obtain ⟨n, rfl⟩ : ∃ j, n = j + 1 := ⟨n - 1, by omega⟩
    rw [wY_count_13]
    refine pk_le D d (fun g => absurd g (by omega)) (fun _ => ?_)
    exact fy_occ H (by omega) (nm_e (nm_r (nI_1 d) (ih n (d + 1) _ (by omega) (by omega) h)))
theorem fy_count {post : Int32 → Prop} (H : fi_inv D T P L tx ty) (h0 : P = 0 → post (-1)) (h1 : ¬ P = 0 → post (fi_cs (fi_cd tx pt P L) D 0 0)) : wpY_count post (nI D, nI T, nI P, ty, fi_A L, pt) :=
  have hP := H.2.2.1
  pk_eq P 0 h0 (fun g => ⟨D + 1, fy_cnt_l H D (D + 1) 0 0 (by omega) (by omega) (h1 g)⟩)
theorem fy_spr_l {post : Int32 → Prop} (H : fi_inv D T P L tx ty) : ∀ m n d s, d + m = D → m < n → post (fi_cp (fi_cd tx pt P L) m d s) → wY_spread_13 post (nI D) (nI T) (nI P) ty (fi_A L) pt n s (nI d) := by
  have hD := H.1.2
  intro m
  induction m with
  | zero =>
    intro n d s h1 h2 h
    obtain ⟨n, rfl⟩ : ∃ j, n = j + 1 := ⟨n - 1, by omega⟩
    rw [wY_spread_13]
    exact pk_le D d (fun _ => h) (fun g => absurd g (by omega))
  | succ m ih =>
    intro n d s h1 h2 h
    obtain ⟨n, rfl⟩ : ∃ j, n = j + 1 := ⟨n - 1, by omega⟩
    rw [wY_spread_13]
    refine pk_le D d (fun g => absurd g (by omega)) (fun _ => ?_)
    rw [fi_cp] at h
    refine fy_occ H (by omega) (br_c (fun c => nm_r (nI_1 d) (ih n (d + 1) _ (by omega) (by omega) ?_)) (fun c => nm_e (nm_r (nI_1 d) (ih n (d + 1) _ (by omega) (by omega) ?_))))
    · rw [if_pos c] at h; exact h
    · rw [if_neg c] at h; exact h
theorem fy_spread {post : Int32 → Prop} (H : fi_inv D T P L tx ty) (h0 : P = 0 → post (-1)) (h1 : ¬ P = 0 → post (fi_cp (fi_cd tx pt P L) D 0 0)) : wpY_spread post (nI D, nI T, nI P, ty, fi_A L, pt) :=
  have hP := H.2.2.1
  pk_eq P 0 h0 (fun g => ⟨D + 1, fy_spr_l H D (D + 1) 0 0 (by omega) (by omega) (h1 g)⟩)
/-- the reference's loop of 60 once the rests have parted -/
theorem fy_sh_2 {post : Int32 → Prop} {d p e q k : Nat} (h : post (nI k)) : ∀ m n i, i + m = 60 → k < i → m < n → wY_shared_6 post (nI d) (nI p) (nI e) (nI q) (nI D) (nI T) (nI P) ty (fi_A L) pt n (nI k) (nI i) := by
  intro m
  induction m with
  | zero =>
    intro n i h1 h2 h3
    obtain ⟨n, rfl⟩ : ∃ j, n = j + 1 := ⟨n - 1, by omega⟩
    rw [wY_shared_6]
    exact pk_le 60 i (fun _ => h) (fun g => absurd g (by omega))
  | succ m ih =>
    intro n i h1 h2 h3
    obtain ⟨n, rfl⟩ : ∃ j, n = j + 1 := ⟨n - 1, by omega⟩
    rw [wY_shared_6]
    exact pk_le 60 i (fun g => absurd g (by omega)) (fun _ => pk_eq k i (fun g => absurd g (by omega)) (fun _ => nm_r (nI_1 i) (ih n (i + 1) (by omega) (by omega) (by omega))))
theorem fy_sh_l {post : Int32 → Prop} {d p e q : Nat} (H : fi_inv D T P L tx ty) (hd : d < 5) (he : e < 5) (hp : p ≤ L d) (hq : q ≤ L e) : ∀ m n k, k + m = 60 → m < n → post (nI (fi_sp tx (L d - p) (L e - q) (64 * d + p) (64 * e + q) m k)) → wY_shared_6 post (nI d) (nI p) (nI e) (nI q) (nI D) (nI T) (nI P) ty (fi_A L) pt n (nI k) (nI k) := by
  have hl := fi_L60 H d
  have hl2 := fi_L60 H e
  intro m
  induction m with
  | zero =>
    intro n k h1 h2 h
    obtain ⟨n, rfl⟩ : ∃ j, n = j + 1 := ⟨n - 1, by omega⟩
    rw [wY_shared_6]
    exact pk_le 60 k (fun _ => h) (fun g => absurd g (by omega))
  | succ m ih =>
    intro n k h1 h2 h
    obtain ⟨n, rfl⟩ : ∃ j, n = j + 1 := ⟨n - 1, by omega⟩
    rw [wY_shared_6]
    refine pk_le 60 k (fun g => absurd g (by omega)) (fun _ => br_t rfl ⟨pk_in d 5 hd, ?_⟩)
    refine pk_le (L d) (p + k) (fun g => ?_) (fun g => ⟨pk_in e 5 he, pk_le (L e) (q + k) (fun g2 => ?_) (fun g2 => ?_) (fi_Ac (by omega)) (nI_add q k) (by omega) (by omega)⟩) (fi_Ac (by omega)) (nI_add p k) (by omega) (by omega)
    · rw [fi_sp_stop (by omega)] at h
      exact nm_r (nI_1 k) (fy_sh_2 h m n (k + 1) (by omega) (by omega) (by omega))
    · rw [fi_sp_stop (by omega)] at h
      exact nm_r (nI_1 k) (fy_sh_2 h m n (k + 1) (by omega) (by omega) (by omega))
    · have e1 : 60 * nI d + nI p + nI k = nI (60 * d + (p + k)) := by
        rw [fi_m60, nI_add, nI_add]
        exact congrArg nI (by omega)
      have e2 : 60 * nI e + nI q + nI k = nI (60 * e + (q + k)) := by
        rw [fi_m60, nI_add, nI_add]
        exact congrArg nI (by omega)
      have t1 : ty (60 * d + (p + k)) = tx (64 * d + p + k) := by
        rw [fi_tx H (by omega), show 64 * d + (p + k) = 64 * d + p + k by omega]
      have t2 : ty (60 * e + (q + k)) = tx (64 * e + q + k) := by
        rw [fi_tx H (by omega), show 64 * e + (q + k) = 64 * e + q + k by omega]
      rw [e1, e2, nI_clamp (n := 60 * d + (p + k)) (by omega), nI_clamp (n := 60 * e + (q + k)) (by omega), t1, t2]
      refine ⟨pk_in (60 * d + (p + k)) 300 (by omega), pk_in (60 * e + (q + k)) 300 (by omega), ?_⟩
      by_cases c : tx (64 * d + p + k) = tx (64 * e + q + k)
      · rw [fi_sp_go ⟨by omega, by omega, c⟩] at h
        exact br_t c (nm_r (nI_1 k) (nm_r (nI_1 k) (ih n (k + 1) (by omega) (by omega) h)))
      · rw [fi_sp_stop (fun z => c z.2.2)] at h
        exact br_f c (nm_r (nI_1 k) (fy_sh_2 h m n (k + 1) (by omega) (by omega) (by omega)))
theorem fy_sh {post : Int32 → Prop} {d p e q : Nat} (H : fi_inv D T P L tx ty) (hd : d < 5) (he : e < 5) (hp : p ≤ L d) (hq : q ≤ L e) (h : post (nI (fi_sh tx L (64 * d + p) (64 * e + q)))) : wpY_shared post (nI D, nI T, nI P, ty, fi_A L, pt) (nI d) (nI p) (nI e) (nI q) := by
  have hl := fi_L60 H d
  have hl2 := fi_L60 H e
  unfold fi_sh at h
  rw [fi_rl_dp (by omega), fi_rl_dp (by omega)] at h
  exact ⟨61, fy_sh_l H hd he hp hq 60 61 0 rfl (by decide) h⟩
theorem fy_bf {post : Int32 → Prop} {d p e q : Nat} (H : fi_inv D T P L tx ty) (hd : d < 5) (he : e < 5) (hp : p ≤ L d) (hq : q ≤ L e) (h : post (fi_b (fi_bf tx L (64 * d + p) (64 * e + q)))) : wpY_before post (nI D, nI T, nI P, ty, fi_A L, pt) (nI d) (nI p) (nI e) (nI q) := by
  have hl := fi_L60 H d
  have hl2 := fi_L60 H e
  have hs := fi_sh_le tx L (64 * d + p) (64 * e + q)
  unfold fi_bf at h
  rw [fi_rl_dp (by omega), fi_rl_dp (by omega)] at h
  rw [fi_rl_dp (by omega), fi_rl_dp (by omega)] at hs
  unfold wpY_before
  refine fy_sh H hd he hp hq ?_
  generalize fi_sh tx L (64 * d + p) (64 * e + q) = s at h hs
  refine ⟨pk_in d 5 hd, pk_eq (p + s) (L d) (fun a1 => ?_) (fun a1 => ?_) (nI_add p s) (fi_Ac (by omega)) (by omega) (by omega)⟩
  · refine ⟨pk_in e 5 he, pk_eq (q + s) (L e) (fun a2 => ?_) (fun a2 => ?_) (nI_add q s) (fi_Ac (by omega)) (by omega) (by omega)⟩
    · rw [fi_bs_e (by omega) (by omega)] at h
      have hde : d = e → L d = L e := fun z => by rw [z]
      exact br_f fi_10 (br_f fi_10 (pk_le e d (fun g => fi_pf h (decide_eq_false (by omega))) (fun g => fi_pt h (decide_eq_true (by omega)))))
    · rw [fi_bs_n (by omega) (by omega)] at h
      exact br_f fi_10 (br_t rfl (br_f fi_10 ⟨rfl, fi_pt h (decide_eq_true (by omega))⟩))
  · refine ⟨pk_in e 5 he, pk_eq (q + s) (L e) (fun a2 => ?_) (fun a2 => ?_) (nI_add q s) (fi_Ac (by omega)) (by omega) (by omega)⟩
    · rw [fi_bs_n (by omega) (by omega)] at h
      exact br_t rfl (br_t rfl (br_f fi_10 ⟨rfl, fi_pf h (decide_eq_false (by omega))⟩))
    · rw [fi_bs_l (by omega)] at h
      have e1 : 60 * nI d + nI p + nI s = nI (60 * d + (p + s)) := by
        rw [fi_m60, nI_add, nI_add]
        exact congrArg nI (by omega)
      have e2 : 60 * nI e + nI q + nI s = nI (60 * e + (q + s)) := by
        rw [fi_m60, nI_add, nI_add]
        exact congrArg nI (by omega)
      have t1 : ty (60 * d + (p + s)) = tx (64 * d + p + s) := by
        rw [fi_tx H (by omega), show 64 * d + (p + s) = 64 * d + p + s by omega]
      have t2 : ty (60 * e + (q + s)) = tx (64 * e + q + s) := by
        rw [fi_tx H (by omega), show 64 * e + (q + s) = 64 * e + q + s by omega]
      refine br_t rfl (br_t rfl (br_t rfl ?_))
      rw [e1, e2, nI_clamp (n := 60 * d + (p + s)) (by omega), nI_clamp (n := 60 * e + (q + s)) (by omega), t1, t2]
      refine ⟨pk_in (60 * d + (p + s)) 300 (by omega), pk_in (60 * e + (q + s)) 300 (by omega), ?_⟩
      exact br_c (fun c => fi_pf h (decide_eq_false (fun z => z c))) (fun c => fi_pt h (decide_eq_true c))
end
end
section
/-! the reference's questions that walk over documents and positions -/
section
variable {D T P : Nat} {L : Nat → Nat} {tx ty pt : Nat → Int32}
theorem fy_64 (d p : Nat) : 64 * nI d + nI p = nI (64 * d + p) := by rw [fi_m64, nI_add]
theorem fy_occurrence {post : Int32 → Prop} {i : Int32} (H : fi_inv D T P L tx ty) (h0 : P = 0 → post (-1)) (h1 : ¬ P = 0 → post (fi_oi tx pt D P L i)) : wpY_occurrence post (nI D, nI T, nI P, ty, fi_A L, pt) i := by
  have hP := H.2.2.1
  have hD := H.1.2
  have hl := fi_L60 H
  refine pk_eq P 0 h0 (fun g => ⟨D + 1, ?_⟩)
  refine fi_Y (fun n d s => wY_occurrence_13 post i (nI D) (nI T) (nI P) ty (fi_A L) pt n s (nI d)) (fun n d m p s => wY_occurrence_29 post (wY_occurrence_13 post i (nI D) (nI T) (nI P) ty (fi_A L) pt n) i (nI d) (nI D) (nI T) (nI P) ty (fi_A L) pt m s (nI p)) post D L (fun q s => match fi_oc tx pt L 0 P q with | true => (if s = i then .inl (nI q) else .inr (s + 1)) | false => .inr s) (fun _ => -2) hD hl ?_ ?_ ?_ ?_ (D + 1) 0 0 (by omega) (by omega) (h1 g)
  · intro n s h
    rw [wY_occurrence_13]
    exact pk_le D D (fun _ => h) (fun g => absurd g (by omega))
  · intro n d s hd h
    rw [wY_occurrence_13]
    exact pk_le D d (fun g => absurd g (by omega)) (fun _ => pk_le 5 d (fun g => absurd g (by omega)) (fun _ => h))
  · intro n m d s hd h
    have hld := hl d
    rw [wY_occurrence_29]
    exact ⟨pk_in d 5 (by omega), pk_le (L d) (L d) (fun _ => nm_r (nI_1 d) h) (fun g => absurd g (by omega)) (fi_Ac (by omega)) rfl (by omega) (by omega)⟩
  · intro n m d p s hd hp k1 k2
    have hld := hl d
    rw [wY_occurrence_29]
    refine ⟨pk_in d 5 (by omega), pk_le (L d) p (fun g => absurd g (by omega)) (fun _ => ?_) (fi_Ac (by omega)) rfl (by omega) (by omega)⟩
    rw [fy_64]
    exact fy_st (a := 0) (b := P) H (by omega) hP (by omega) (by omega) (fi_br (fun c => nm_r (nI_1 p) (k2 s (by rw [c]))) (fun c => br_c (fun z => k1 _ (by rw [c]; exact if_pos z)) (fun z => nm_e (nm_r (nI_1 p) (k2 _ (by rw [c]; exact if_neg z))))))
theorem fy_po {post : Int32 → Prop} {a b : Nat} (H : fi_inv D T P L tx ty) (hab : a ≤ b) (hb : b ≤ 8) (h : post (fi_po tx pt D L a b)) : wpY_occurs post (nI D, nI T, nI P, ty, fi_A L, pt) (nI a) (nI b) := by
  have hD := H.1.2
  have hl := fi_L60 H
  refine ⟨D + 1, ?_⟩
  refine fi_Y (fun n d _ => wY_occurs_2 post (nI a) (nI b) (nI D) (nI T) (nI P) ty (fi_A L) pt n (nI d)) (fun n d m p _ => wY_occurs_18 post (wY_occurs_2 post (nI a) (nI b) (nI D) (nI T) (nI P) ty (fi_A L) pt n) (nI a) (nI b) (nI d) (nI D) (nI T) (nI P) ty (fi_A L) pt m (nI p)) post D L (fun q s => match fi_oc tx pt L a b q with | true => .inl 1 | false => .inr s) (fun _ => 0) hD hl ?_ ?_ ?_ ?_ (D + 1) 0 0 (by omega) (by omega) h
  · intro n s h
    rw [wY_occurs_2]
    exact pk_le D D (fun _ => h) (fun g => absurd g (by omega))
  · intro n d s hd h
    rw [wY_occurs_2]
    exact pk_le D d (fun g => absurd g (by omega)) (fun _ => pk_le 5 d (fun g => absurd g (by omega)) (fun _ => h))
  · intro n m d s hd h
    have hld := hl d
    rw [wY_occurs_18]
    exact ⟨pk_in d 5 (by omega), pk_le (L d) (L d) (fun _ => nm_r (nI_1 d) h) (fun g => absurd g (by omega)) (fi_Ac (by omega)) rfl (by omega) (by omega)⟩
  · intro n m d p s hd hp k1 k2
    have hld := hl d
    rw [wY_occurs_18]
    refine ⟨pk_in d 5 (by omega), pk_le (L d) p (fun g => absurd g (by omega)) (fun _ => ?_) (fi_Ac (by omega)) rfl (by omega) (by omega)⟩
    exact fy_st H hab hb (by omega) (by omega) (fi_br (fun c => nm_r (nI_1 p) (k2 s (by rw [c]))) (fun c => k1 _ (by rw [c])))
theorem fy_le_l {post : Int32 → Prop} (H : fi_inv D T P L tx ty) : ∀ k n, k ≤ P → k < n → post (fi_lg (fun j => fi_po tx pt D L (P - j) P) k) → wY_longestEnd_5 post (nI D) (nI T) (nI P) ty (fi_A L) pt n (nI k) := by
  have hP := H.2.2.1
  intro k
  induction k with
  | zero =>
    intro n h1 h2 h
    obtain ⟨n, rfl⟩ : ∃ j, n = j + 1 := ⟨n - 1, by omega⟩
    rw [wY_longestEnd_5]
    exact pk_le 0 0 (fun _ => h) (fun g => absurd g (by omega))
  | succ k ih =>
    intro n h1 h2 h
    obtain ⟨n, rfl⟩ : ∃ j, n = j + 1 := ⟨n - 1, by omega⟩
    rw [wY_longestEnd_5]
    refine pk_le (k + 1) 0 (fun g => absurd g (by omega)) (fun _ => ?_)
    rw [pk_sub h1]
    rw [fi_lg] at h
    refine fy_po H (by omega) hP (br_c (fun c => nm_r (pk_m1 k) (ih n (by omega) (by omega) ?_)) (fun c => ?_))
    · rw [if_pos c] at h; exact h
    · rw [if_neg c] at h; exact h
theorem fy_longestEnd {post : Int32 → Prop} (H : fi_inv D T P L tx ty) (h : post (fi_lg (fun j => fi_po tx pt D L (P - j) P) P)) : wpY_longestEnd post (nI D, nI T, nI P, ty, fi_A L, pt) :=
  ⟨P + 1, fy_le_l H P (P + 1) (by omega) (by omega) h⟩
theorem fy_lb_l {post : Int32 → Prop} (H : fi_inv D T P L tx ty) : ∀ k n, k ≤ P → k < n → post (fi_lg (fun j => fi_po tx pt D L 0 j) k) → wY_longestBegin_5 post (nI D) (nI T) (nI P) ty (fi_A L) pt n (nI k) := by
  have hP := H.2.2.1
  intro k
  induction k with
  | zero =>
    intro n h1 h2 h
    obtain ⟨n, rfl⟩ : ∃ j, n = j + 1 := ⟨n - 1, by omega⟩
    rw [wY_longestBegin_5]
    exact pk_le 0 0 (fun _ => h) (fun g => absurd g (by omega))
  | succ k ih =>
    intro n h1 h2 h
    obtain ⟨n, rfl⟩ : ∃ j, n = j + 1 := ⟨n - 1, by omega⟩
    rw [wY_longestBegin_5]
    refine pk_le (k + 1) 0 (fun g => absurd g (by omega)) (fun _ => ?_)
    rw [fi_lg] at h
    refine fy_po (a := 0) (b := k + 1) H (by omega) (by omega) (br_c (fun c => nm_r (pk_m1 k) (ih n (by omega) (by omega) ?_)) (fun c => ?_))
    · rw [if_pos c] at h; exact h
    · rw [if_neg c] at h; exact h
theorem fy_longestBegin {post : Int32 → Prop} (H : fi_inv D T P L tx ty) (h : post (fi_lg (fun j => fi_po tx pt D L 0 j) P)) : wpY_longestBegin post (nI D, nI T, nI P, ty, fi_A L, pt) :=
  ⟨P + 1, fy_lb_l H P (P + 1) (by omega) (by omega) h⟩
theorem fy_rk {post : Int32 → Prop} {e q : Nat} (H : fi_inv D T P L tx ty) (he : e < 5) (hq : q ≤ L e) (h : post (fi_rk tx D L (64 * e + q))) : wpY_rank post (nI D, nI T, nI P, ty, fi_A L, pt) (nI e) (nI q) := by
  have hD := H.1.2
  have hl := fi_L60 H
  refine ⟨D + 1, ?_⟩
  refine fi_Y (fun n d s => wY_rank_5 post (nI e) (nI q) (nI D) (nI T) (nI P) ty (fi_A L) pt n s (nI d)) (fun n d m p s => wY_rank_23 post (wY_rank_5 post (nI e) (nI q) (nI D) (nI T) (nI P) ty (fi_A L) pt n) (nI e) (nI q) (nI d) (nI D) (nI T) (nI P) ty (fi_A L) pt m s (nI p)) post D L (fun r s => .inr (match fi_bf tx L r (64 * e + q) with | true => s + 1 | false => s)) (fun s => s) hD hl ?_ ?_ ?_ ?_ (D + 1) 0 0 (by omega) (by omega) h
  · intro n s h
    rw [wY_rank_5]
    exact pk_le D D (fun _ => h) (fun g => absurd g (by omega))
  · intro n d s hd h
    rw [wY_rank_5]
    exact pk_le D d (fun g => absurd g (by omega)) (fun _ => pk_le 5 d (fun g => absurd g (by omega)) (fun _ => h))
  · intro n m d s hd h
    have hld := hl d
    rw [wY_rank_23]
    exact ⟨pk_in d 5 (by omega), pk_le (L d) (L d) (fun _ => nm_r (nI_1 d) h) (fun g => absurd g (by omega)) (fi_Ac (by omega)) rfl (by omega) (by omega)⟩
  · intro n m d p s hd hp k1 k2
    have hld := hl d
    rw [wY_rank_23]
    refine ⟨pk_in d 5 (by omega), pk_le (L d) p (fun g => absurd g (by omega)) (fun _ => ?_) (fi_Ac (by omega)) rfl (by omega) (by omega)⟩
    exact fy_bf H (by omega) he (by omega) hq (fi_br (fun c => nm_r (nI_1 p) (k2 s (by rw [c]))) (fun c => nm_e (nm_r (nI_1 p) (k2 (s + 1) (by rw [c])))))
theorem fy_ranked {post : Int32 → Prop} {i : Int32} (H : fi_inv D T P L tx ty) (h : post (fi_ra tx D L i)) : wpY_ranked post (nI D, nI T, nI P, ty, fi_A L, pt) i := by
  have hD := H.1.2
  have hl := fi_L60 H
  refine ⟨D + 1, ?_⟩
  refine fi_Y (fun n d _ => wY_ranked_2 post i (nI D) (nI T) (nI P) ty (fi_A L) pt n (nI d)) (fun n d m p _ => wY_ranked_17 post (wY_ranked_2 post i (nI D) (nI T) (nI P) ty (fi_A L) pt n) i (nI d) (nI D) (nI T) (nI P) ty (fi_A L) pt m (nI p)) post D L (fun q s => if fi_rk tx D L q = i then .inl (nI q) else .inr s) (fun _ => -1) hD hl ?_ ?_ ?_ ?_ (D + 1) 0 0 (by omega) (by omega) h
  · intro n s h
    rw [wY_ranked_2]
    exact pk_le D D (fun _ => h) (fun g => absurd g (by omega))
  · intro n d s hd h
    rw [wY_ranked_2]
    exact pk_le D d (fun g => absurd g (by omega)) (fun _ => pk_le 5 d (fun g => absurd g (by omega)) (fun _ => h))
  · intro n m d s hd h
    have hld := hl d
    rw [wY_ranked_17]
    exact ⟨pk_in d 5 (by omega), pk_le (L d) (L d) (fun _ => nm_r (nI_1 d) h) (fun g => absurd g (by omega)) (fi_Ac (by omega)) rfl (by omega) (by omega)⟩
  · intro n m d p s hd hp k1 k2
    have hld := hl d
    rw [wY_ranked_17]
    refine ⟨pk_in d 5 (by omega), pk_le (L d) p (fun g => absurd g (by omega)) (fun _ => ?_) (fi_Ac (by omega)) rfl (by omega) (by omega)⟩
    rw [fy_64]
    exact fy_rk H (by omega) (by omega) (br_c (fun c => k1 _ (if_pos c)) (fun c => nm_r (nI_1 p) (k2 s (if_neg c))))
theorem fy_se {post : Int32 → Prop} {e q : Nat} (H : fi_inv D T P L tx ty) (he : e < D) (hq : q ≤ L e) (h : post (fi_se tx L (64 * e + q))) : wpY_seen post (nI D, nI T, nI P, ty, fi_A L, pt) (nI e) (nI q) := by
  have hD := H.1.2
  have hl := fi_L60 H
  have hle := hl e
  unfold fi_se at h
  rw [fi_dv (by omega)] at h
  refine ⟨e + 2, ?_⟩
  refine fi_Y (fun n d s => wY_seen_5 post (nI e) (nI q) (nI D) (nI T) (nI P) ty (fi_A L) pt n s (nI d)) (fun n d m p s => wY_seen_14 post (wY_seen_5 post (nI e) (nI q) (nI D) (nI T) (nI P) ty (fi_A L) pt n) (nI e) (nI q) (nI d) (nI D) (nI T) (nI P) ty (fi_A L) pt m s (nI p)) post (e + 1) L (fun r s => if r < 64 * e + q then .inr (fi_mx s (nI (fi_sh tx L r (64 * e + q)))) else .inr s) (fun s => s) (by omega) hl ?_ ?_ ?_ ?_ (e + 2) 0 0 (by omega) (by omega) h
  · intro n s h
    rw [wY_seen_5]
    exact pk_lt e (e + 1) (fun _ => h) (fun g => absurd g (by omega))
  · intro n d s hd h
    rw [wY_seen_5]
    exact pk_lt e d (fun g => absurd g (by omega)) (fun _ => h)
  · intro n m d s hd h
    have hld := hl d
    rw [wY_seen_14]
    exact ⟨pk_in d 5 (by omega), pk_le (L d) (L d) (fun _ => nm_r (nI_1 d) h) (fun g => absurd g (by omega)) (fi_Ac (by omega)) rfl (by omega) (by omega)⟩
  · intro n m d p s hd hp k1 k2
    have hld := hl d
    have key : 64 * d + p < 64 * e + q → wY_seen_38 post (wY_seen_5 post (nI e) (nI q) (nI D) (nI T) (nI P) ty (fi_A L) pt n) (wY_seen_14 post (wY_seen_5 post (nI e) (nI q) (nI D) (nI T) (nI P) ty (fi_A L) pt n) (nI e) (nI q) (nI d) (nI D) (nI T) (nI P) ty (fi_A L) pt m) (nI e) (nI q) s (nI d) (nI p) (nI D) (nI T) (nI P) ty (fi_A L) pt := by
      intro z
      unfold wY_seen_38
      exact fy_sh H (by omega) (by omega) (by omega) hq (br_c (fun c => nm_r (nI_1 p) (k2 s (by rw [if_pos z, fi_mx_l c]))) (fun c => nm_r (nI_1 p) (k2 _ (by rw [if_pos z, fi_mx_g c]))))
    rw [wY_seen_14]
    refine ⟨pk_in d 5 (by omega), pk_le (L d) p (fun g => absurd g (by omega)) (fun _ => ?_) (fi_Ac (by omega)) rfl (by omega) (by omega)⟩
    exact pk_lt d e (fun g => key (by omega)) (fun g => pk_le q p (fun g2 => nm_r (nI_1 p) (k2 s (if_neg (by omega)))) (fun g2 => key (by omega)))
theorem fy_repeated {post : Int32 → Prop} (H : fi_inv D T P L tx ty) (h : post (fi_re tx D L)) : wpY_repeated post (nI D, nI T, nI P, ty, fi_A L, pt) := by
  have hD := H.1.2
  have hl := fi_L60 H
  refine ⟨D + 1, ?_⟩
  refine fi_Y (fun n d s => wY_repeated_4 post (nI D) (nI T) (nI P) ty (fi_A L) pt n s (nI d)) (fun n d m p s => wY_repeated_19 post (wY_repeated_4 post (nI D) (nI T) (nI P) ty (fi_A L) pt n) (nI d) (nI D) (nI T) (nI P) ty (fi_A L) pt m s (nI p)) post D L (fun q s => .inr (fi_mx s (fi_se tx L q))) (fun s => s) hD hl ?_ ?_ ?_ ?_ (D + 1) 0 0 (by omega) (by omega) h
  · intro n s h
    rw [wY_repeated_4]
    exact pk_le D D (fun _ => h) (fun g => absurd g (by omega))
  · intro n d s hd h
    rw [wY_repeated_4]
    exact pk_le D d (fun g => absurd g (by omega)) (fun _ => pk_le 5 d (fun g => absurd g (by omega)) (fun _ => h))
  · intro n m d s hd h
    have hld := hl d
    rw [wY_repeated_19]
    exact ⟨pk_in d 5 (by omega), pk_le (L d) (L d) (fun _ => nm_r (nI_1 d) h) (fun g => absurd g (by omega)) (fi_Ac (by omega)) rfl (by omega) (by omega)⟩
  · intro n m d p s hd hp k1 k2
    have hld := hl d
    rw [wY_repeated_19]
    refine ⟨pk_in d 5 (by omega), pk_le (L d) p (fun g => absurd g (by omega)) (fun _ => ?_) (fi_Ac (by omega)) rfl (by omega) (by omega)⟩
    exact fy_se H hd (by omega) (br_c (fun c => nm_r (nI_1 p) (k2 s (by rw [fi_mx_l c]))) (fun c => nm_r (nI_1 p) (k2 _ (by rw [fi_mx_g c]))))
theorem fy_different {post : Int32 → Prop} (H : fi_inv D T P L tx ty) (h : post (fi_di tx D L)) : wpY_different post (nI D, nI T, nI P, ty, fi_A L, pt) := by
  have hD := H.1.2
  have hl := fi_L60 H
  refine ⟨D + 1, ?_⟩
  refine fi_Y (fun n d s => wY_different_4 post (nI D) (nI T) (nI P) ty (fi_A L) pt n s (nI d)) (fun n d m p s => wY_different_19 post (wY_different_4 post (nI D) (nI T) (nI P) ty (fi_A L) pt n) (nI d) (nI D) (nI T) (nI P) ty (fi_A L) pt m s (nI p)) post D L (fun q s => .inr (s + (nI (fi_rl L q) - fi_se tx L q))) (fun s => s) hD hl ?_ ?_ ?_ ?_ (D + 1) 0 0 (by omega) (by omega) h
  · intro n s h
    rw [wY_different_4]
    exact pk_le D D (fun _ => h) (fun g => absurd g (by omega))
  · intro n d s hd h
    rw [wY_different_4]
    exact pk_le D d (fun g => absurd g (by omega)) (fun _ => pk_le 5 d (fun g => absurd g (by omega)) (fun _ => h))
  · intro n m d s hd h
    have hld := hl d
    rw [wY_different_19]
    exact ⟨pk_in d 5 (by omega), pk_le (L d) (L d) (fun _ => nm_r (nI_1 d) h) (fun g => absurd g (by omega)) (fi_Ac (by omega)) rfl (by omega) (by omega)⟩
  · intro n m d p s hd hp k1 k2
    have hld := hl d
    have e1 : fi_A L (nI d).toNatClampNeg - nI p = nI (fi_rl L (64 * d + p)) := by
      rw [fi_Ac (by omega), pk_sub (by omega), fi_rl_dp (by omega)]
    rw [wY_different_19]
    refine ⟨pk_in d 5 (by omega), pk_le (L d) p (fun g => absurd g (by omega)) (fun _ => ?_) (fi_Ac (by omega)) rfl (by omega) (by omega)⟩
    rw [e1]
    exact ⟨pk_in d 5 (by omega), fy_se H hd (by omega) (nm_e (nm_r (nI_1 p) (k2 _ rfl)))⟩
theorem fy_ld {post : Int32 → Prop} {c : Int32} (H : fi_inv D T P L tx ty) (h : post (fi_ld tx pt D P L c)) : wpY_led post (nI D, nI T, nI P, ty, fi_A L, pt) c := by
  have hP := H.2.2.1
  have hD := H.1.2
  have hl := fi_L60 H
  refine ⟨D + 1, ?_⟩
  refine fi_Y (fun n d _ => wY_led_2 post c (nI D) (nI T) (nI P) ty (fi_A L) pt n (nI d)) (fun n d m p _ => wY_led_17 post (wY_led_2 post c (nI D) (nI T) (nI P) ty (fi_A L) pt n) c (nI d) (nI D) (nI T) (nI P) ty (fi_A L) pt m (nI p)) post D L (fun q s => if tx q = c then (match fi_oc tx pt L 0 P (q + 1) with | true => .inl 1 | false => .inr s) else .inr s) (fun _ => 0) hD hl ?_ ?_ ?_ ?_ (D + 1) 0 0 (by omega) (by omega) h
  · intro n s h
    rw [wY_led_2]
    exact pk_le D D (fun _ => h) (fun g => absurd g (by omega))
  · intro n d s hd h
    rw [wY_led_2]
    exact pk_le D d (fun g => absurd g (by omega)) (fun _ => pk_le 5 d (fun g => absurd g (by omega)) (fun _ => h))
  · intro n m d s hd h
    have hld := hl d
    rw [wY_led_17]
    exact ⟨pk_in d 5 (by omega), pk_le (L d) (L d) (fun _ => nm_r (nI_1 d) h) (fun g => absurd g (by omega)) (fi_Ac (by omega)) rfl (by omega) (by omega)⟩
  · intro n m d p s hd hp k1 k2
    have hld := hl d
    have e1 : 60 * nI d + nI p = nI (60 * d + p) := by rw [fi_m60, nI_add]
    rw [wY_led_17]
    refine ⟨pk_in d 5 (by omega), pk_le (L d) p (fun g => absurd g (by omega)) (fun _ => ?_) (fi_Ac (by omega)) rfl (by omega) (by omega)⟩
    rw [e1, nI_clamp (n := 60 * d + p) (by omega), fi_tx H hp, nI_1 p]
    refine ⟨pk_in (60 * d + p) 300 (by omega), br_c (fun z => ?_) (fun z => nm_e (k2 s (if_neg z)))⟩
    exact fy_st (a := 0) (b := P) (d := d) (p := p + 1) H (by omega) hP (by omega) (by omega) (fi_br (fun b => nm_e (k2 s (by rw [if_pos z]; show (match fi_oc tx pt L 0 P (64 * d + (p + 1)) with | true => _ | false => _) = _; rw [b]))) (fun b => k1 1 (by rw [if_pos z]; show (match fi_oc tx pt L 0 P (64 * d + (p + 1)) with | true => _ | false => _) = _; rw [b])))
theorem fy_ext_l {post : Int32 → Prop} (H : fi_inv D T P L tx ty) : ∀ m n c s, c + m = 5 → m < n → post (fi_cz (fun j => fi_ld tx pt D P L (nI j)) m c s) → wY_extensions_4 post (nI D) (nI T) (nI P) ty (fi_A L) pt n s (nI c) := by
  intro m
  induction m with
  | zero =>
    intro n c s h1 h2 h
    obtain ⟨n, rfl⟩ : ∃ j, n = j + 1 := ⟨n - 1, by omega⟩
    rw [wY_extensions_4]
    exact pk_le 5 c (fun _ => h) (fun g => absurd g (by omega))
  | succ m ih =>
    intro n c s h1 h2 h
    obtain ⟨n, rfl⟩ : ∃ j, n = j + 1 := ⟨n - 1, by omega⟩
    rw [wY_extensions_4]
    refine pk_le 5 c (fun g => absurd g (by omega)) (fun _ => ?_)
    rw [fi_cz] at h
    refine fy_ld H (br_c (fun z => nm_r (nI_1 c) (ih n (c + 1) _ (by omega) (by omega) ?_)) (fun z => nm_e (nm_r (nI_1 c) (ih n (c + 1) _ (by omega) (by omega) ?_))))
    · rw [if_pos z] at h; exact h
    · rw [if_neg z] at h; exact h
theorem fy_extensions {post : Int32 → Prop} (H : fi_inv D T P L tx ty) (h : post (fi_cz (fun j => fi_ld tx pt D P L (nI j)) 5 0 0)) : wpY_extensions post (nI D, nI T, nI P, ty, fi_A L, pt) :=
  ⟨6, fy_ext_l H 5 6 0 0 (by omega) (by omega) h⟩
end
end
section
/-! the calls that change the state -/
section
variable {D E T P : Nat} {L : Nat → Nat} {tx ty pt : Nat → Int32}
theorem fi_A_0 {k : Nat} (h : L k = 0) : upd (fi_A L) k 0 = fi_A L := by
  funext j
  unfold fi_A upd
  by_cases e : j = k
  · rw [if_pos e, e, h]; rfl
  · rw [if_neg e]
theorem fi_A_up0 {k : Nat} : upd (fi_A L) k 0 = fi_A (fi_up L k 0) := fi_A_up (x := 0)
theorem fx_app {post : SX → Prop} {c : Int32} (H : fi_inv (E + 1) T P L tx ty) (hT : T < 60) (h : post (nI (E + 1), nI (T + 1), nI P, upd tx (64 * E + L E) c, fi_A (fi_up L E (L E + 1)), pt)) : wpX_append post (nI (E + 1), nI T, nI P, tx, fi_A L, pt) c := by
  have hE := H.1.2
  have hl := fi_LT H E
  have e1 : 64 * nI E + fi_A L (nI E).toNatClampNeg = nI (64 * E + L E) := by rw [fi_m64, fi_Ac (by omega), nI_add]
  unfold wpX_append
  refine nm_r (nI_pred E) ?_
  rw [e1, fi_Ac (d := E) (by omega), nI_1 (L E), nI_clamp (n := 64 * E + L E) (by omega), nI_clamp (n := E) (by omega), fi_A_up, nI_1 T]
  exact ⟨pk_in E 5 (by omega), pk_in (64 * E + L E) 320 (by omega), nm_e ⟨pk_in E 5 (by omega), pk_in E 5 (by omega), nm_e (nm_e h)⟩⟩
theorem fy_app {post : SY → Prop} {c : Int32} (H : fi_inv (E + 1) T P L tx ty) (hT : T < 60) (h : post (nI (E + 1), nI (T + 1), nI P, upd ty (60 * E + L E) c, fi_A (fi_up L E (L E + 1)), pt)) : wpY_append post (nI (E + 1), nI T, nI P, ty, fi_A L, pt) c := by
  have hE := H.1.2
  have hl := fi_LT H E
  have e1 : 60 * nI E + fi_A L (nI E).toNatClampNeg = nI (60 * E + L E) := by rw [fi_m60, fi_Ac (by omega), nI_add]
  unfold wpY_append
  refine nm_r (nI_pred E) ?_
  rw [e1, fi_Ac (d := E) (by omega), nI_1 (L E), nI_clamp (n := 60 * E + L E) (by omega), nI_clamp (n := E) (by omega), fi_A_up, nI_1 T]
  exact ⟨pk_in E 5 (by omega), pk_in (60 * E + L E) 300 (by omega), nm_e ⟨pk_in E 5 (by omega), pk_in E 5 (by omega), nm_e (nm_e h)⟩⟩
/-- what a spec asks for stands in document d -/
def fi_sd (L : Nat → Nat) (d w : Nat) : Prop := 1 ≤ w % 64 ∧ w % 64 ≤ 60 ∧ w / 64 + w % 64 ≤ L d
theorem fx_paste {post : Int32 → SX → Prop} {d w : Nat} (H : fi_inv D T P L tx ty) (hd : d < D) (hw : w < 2 ^ 31) (h2 : ¬ fi_sd L d w → post (-2) (nI D, nI T, nI P, tx, fi_A L, pt)) (h3 : fi_sd L d w → ¬ T + w % 64 ≤ 60 → post (-3) (nI D, nI T, nI P, tx, fi_A L, pt)) (h4 : fi_sd L d w → T + w % 64 ≤ 60 → ∃ n, wX_paste_83 post (nI (w % 64)) (nI (64 * d + w / 64)) n 0 (nI D) (nI T) (nI P) tx (fi_A L) pt) : wpX_paste post (nI D, nI T, nI P, tx, fi_A L, pt) (nI d) (nI w) := by
  have hD := H.1.2
  have hT := H.2.1.2
  have hl := fi_L60 H d
  unfold wpX_paste
  refine fx_isDoc H (by omega) (fun _ => br_f fi_10 (br_t (nI_pos' hw) ⟨fi_640, nm_r (fi_d64 hw) ⟨fi_640, nm_r (fi_r64' hw) ?_⟩⟩)) (fun g => absurd hd g)
  refine pk_lt (w % 64) 1 (fun g => h2 (fun z => by have := z.1; omega)) (fun g1 => pk_lt 60 (w % 64) (fun g => h2 (fun z => by have := z.2.1; omega)) (fun g2 => ⟨pk_in d 5 (by omega), ?_⟩))
  refine pk_le (w / 64 + w % 64) (L d) (fun g3 => ?_) (fun g => h2 (fun z => by have := z.2.2; omega)) (nI_add _ _) (fi_Ac (by omega)) (by omega) (by omega)
  refine pk_le (T + w % 64) 60 (fun g4 => ?_) (fun g => h3 ⟨g1, g2, g3⟩ (by omega)) (nI_add _ _) rfl (by omega) (by omega)
  refine nm_r (e' := nI (64 * d + w / 64)) (by rw [fi_m64, nI_add]) (h4 ⟨g1, g2, g3⟩ g4)
theorem fy_paste {post : Int32 → SY → Prop} {d w : Nat} (H : fi_inv D T P L tx ty) (hd : d < D) (hw : w < 2 ^ 31) (h2 : ¬ fi_sd L d w → post (-2) (nI D, nI T, nI P, ty, fi_A L, pt)) (h3 : fi_sd L d w → ¬ T + w % 64 ≤ 60 → post (-3) (nI D, nI T, nI P, ty, fi_A L, pt)) (h4 : fi_sd L d w → T + w % 64 ≤ 60 → ∃ n, wY_paste_81 post (nI d) (nI (w / 64)) (nI (w % 64)) n 0 (nI D) (nI T) (nI P) ty (fi_A L) pt) : wpY_paste post (nI D, nI T, nI P, ty, fi_A L, pt) (nI d) (nI w) := by
  have hD := H.1.2
  have hT := H.2.1.2
  have hl := fi_L60 H d
  unfold wpY_paste
  refine fy_bad H (by omega) (fun _ => br_t rfl (br_t (nI_pos' hw) ⟨fi_640, nm_r (fi_d64 hw) ⟨fi_640, nm_r (fi_r64' hw) ?_⟩⟩)) (fun g => absurd hd g)
  refine pk_lt (w % 64) 1 (fun g => h2 (fun z => by have := z.1; omega)) (fun g1 => pk_lt 60 (w % 64) (fun g => h2 (fun z => by have := z.2.1; omega)) (fun g2 => ?_))
  refine pk_lt 60 (w / 64) (fun g => h2 (fun z => by have := z.2.2; omega)) (fun g5 => ⟨pk_in d 5 (by omega), ?_⟩)
  refine pk_le (w / 64 + w % 64) (L d) (fun g3 => ?_) (fun g => h2 (fun z => by have := z.2.2; omega)) (nI_add _ _) (fi_Ac (by omega)) (by omega) (by omega)
  exact pk_le (T + w % 64) 60 (fun g4 => h4 ⟨g1, g2, g3⟩ g4) (fun g => h3 ⟨g1, g2, g3⟩ (by omega)) (nI_add _ _) rfl (by omega) (by omega)
theorem fi_paste {d f M : Nat} (hd : d < E + 1) : ∀ m k T L tx ty, k + m = M → fi_inv (E + 1) T P L tx ty → T + m ≤ 60 → f + M ≤ L d →
    ∃ T' L' tx' ty', fi_inv (E + 1) T' P L' tx' ty' ∧
      (∀ post : Int32 → SX → Prop, post (nI T') (nI (E + 1), nI T', nI P, tx', fi_A L', pt) → wX_paste_83 post (nI M) (nI (64 * d + f)) (m + 1) (nI k) (nI (E + 1)) (nI T) (nI P) tx (fi_A L) pt) ∧
      (∀ post : Int32 → SY → Prop, post (nI T') (nI (E + 1), nI T', nI P, ty', fi_A L', pt) → wY_paste_81 post (nI d) (nI f) (nI M) (m + 1) (nI k) (nI (E + 1)) (nI T) (nI P) ty (fi_A L) pt) := by
  intro m
  induction m with
  | zero =>
    intro k T L tx ty h1 H hT hf
    have hl := fi_L60 H d
    refine ⟨T, L, tx, ty, H, fun post h => ?_, fun post h => ?_⟩
    · rw [wX_paste_83]
      exact pk_le M k (fun _ => h) (fun g => absurd g (by omega))
    · rw [wY_paste_81]
      exact pk_le M k (fun _ => h) (fun g => absurd g (by omega))
  | succ m ih =>
    intro k T L tx ty h1 H hT hf
    have hl := fi_L60 H d
    have hE := H.1.2
    have ht : ty (60 * d + f + k) = tx (64 * d + f + k) := by
      rw [show 60 * d + f + k = 60 * d + (f + k) by omega, fi_tx H (by omega), show 64 * d + (f + k) = 64 * d + f + k by omega]
    have hL' : f + M ≤ fi_up L E (L E + 1) d := by
      by_cases e : d = E
      · subst e; rw [fi_up_s]; omega
      · rw [fi_up_n e]; exact hf
    obtain ⟨T', L', tx', ty', H', hX, hY⟩ := ih (k + 1) (T + 1) _ _ _ (by omega) (fi_app H (by omega) (tx (64 * d + f + k))) (by omega) hL'
    refine ⟨T', L', tx', ty', H', fun post h => ?_, fun post h => ?_⟩
    · rw [wX_paste_83]
      refine pk_le M k (fun g => absurd g (by omega)) (fun _ => ?_)
      rw [nI_add (64 * d + f) k, nI_clamp (n := 64 * d + f + k) (by omega)]
      exact ⟨pk_in (64 * d + f + k) 320 (by omega), fx_app H (by omega) (nm_r (nI_1 k) (hX post h))⟩
    · rw [wY_paste_81]
      refine pk_le M k (fun g => absurd g (by omega)) (fun _ => ?_)
      rw [fi_m60, nI_add (60 * d) f, nI_add (60 * d + f) k, nI_clamp (n := 60 * d + f + k) (by omega), ht]
      exact ⟨pk_in (60 * d + f + k) 300 (by omega), fy_app H (by omega) (nm_r (nI_1 k) (hY post h))⟩
theorem fi_open (H : fi_inv D T P L tx ty) (h : D < 5) : fi_inv (D + 1) T P L tx ty := by
  obtain ⟨⟨h1, h2⟩, h3, h5, h6, h7⟩ := H
  exact ⟨⟨by omega, by omega⟩, h3, h5, fun d hd => h6 d (by omega), h7⟩
theorem fx_open {post : Int32 → SX → Prop} (H : fi_inv D T P L tx ty) (h0 : ¬ D < 5 → post (-1) (nI D, nI T, nI P, tx, fi_A L, pt)) (h1 : D < 5 → post (nI (D + 1)) (nI (D + 1), nI T, nI P, tx, fi_A L, pt)) : wpX_open post (nI D, nI T, nI P, tx, fi_A L, pt) := by
  have hD := H.1.2
  have h6 := H.2.2.2.1
  unfold wpX_open
  refine pk_lt D 5 (fun g => ⟨pk_in D 5 g, ?_⟩) (fun g => h0 (by omega))
  rw [nI_clamp (n := D) (by omega), fi_A_0 (h6 D (Nat.le_refl D)), nI_1 D]
  exact nm_e (nm_e (h1 g))
theorem fy_open {post : Int32 → SY → Prop} (H : fi_inv D T P L tx ty) (h0 : ¬ D < 5 → post (-1) (nI D, nI T, nI P, ty, fi_A L, pt)) (h1 : D < 5 → post (nI (D + 1)) (nI (D + 1), nI T, nI P, ty, fi_A L, pt)) : wpY_open post (nI D, nI T, nI P, ty, fi_A L, pt) := by
  have hD := H.1.2
  have h6 := H.2.2.2.1
  unfold wpY_open
  refine pk_lt D 5 (fun g => nm_r (nI_1 D) ?_) (fun g => h0 (by omega))
  rw [nI_pred D, nI_clamp (n := D) (by omega), fi_A_0 (h6 D (Nat.le_refl D))]
  exact ⟨pk_in D 5 g, nm_e (h1 g)⟩
theorem fx_pop {post : Int32 → SX → Prop} (H : fi_inv (E + 1) T P L tx ty) (h0 : L E = 0 → post (-1) (nI (E + 1), nI T, nI P, tx, fi_A L, pt)) (h1 : ∀ l t, L E = l + 1 → T = t + 1 → post (tx (64 * E + l)) (nI (E + 1), nI t, nI P, tx, fi_A (fi_up L E l), pt)) : wpX_pop post (nI (E + 1), nI T, nI P, tx, fi_A L, pt) := by
  have hE := H.1.2
  have hl := fi_L60 H E
  have ht := fi_LT H E
  unfold wpX_pop
  refine nm_r (nI_pred E) ⟨pk_in E 5 (by omega), pk_eq (L E) 0 h0 (fun g => ?_) (fi_Ac (by omega)) rfl (by omega) (by omega)⟩
  obtain ⟨l, el⟩ : ∃ l, L E = l + 1 := ⟨L E - 1, by omega⟩
  obtain ⟨t, rfl⟩ : ∃ t, T = t + 1 := ⟨T - 1, by omega⟩
  rw [fi_Ac (d := E) (by omega), el, nI_pred l, nI_pred t, nI_clamp (n := E) (by omega), fi_A_up]
  refine ⟨pk_in E 5 (by omega), pk_in E 5 (by omega), nm_e (nm_e ⟨pk_in E 5 (by omega), ?_⟩)⟩
  have e1 : 64 * nI E + fi_A (fi_up L E l) E = nI (64 * E + l) := by
    rw [fi_m64, ← nI_add]
    unfold fi_A
    rw [fi_up_s]
  rw [e1, nI_clamp (n := 64 * E + l) (by omega)]
  exact ⟨pk_in (64 * E + l) 320 (by omega), h1 l t el rfl⟩
theorem fy_pop {post : Int32 → SY → Prop} (H : fi_inv (E + 1) T P L tx ty) (h0 : L E = 0 → post (-1) (nI (E + 1), nI T, nI P, ty, fi_A L, pt)) (h1 : ∀ l t, L E = l + 1 → T = t + 1 → post (ty (60 * E + l)) (nI (E + 1), nI t, nI P, ty, fi_A (fi_up L E l), pt)) : wpY_pop post (nI (E + 1), nI T, nI P, ty, fi_A L, pt) := by
  have hE := H.1.2
  have hl := fi_L60 H E
  have ht := fi_LT H E
  unfold wpY_pop
  refine nm_r (nI_pred E) ⟨pk_in E 5 (by omega), pk_eq (L E) 0 h0 (fun g => ?_) (fi_Ac (by omega)) rfl (by omega) (by omega)⟩
  obtain ⟨l, el⟩ : ∃ l, L E = l + 1 := ⟨L E - 1, by omega⟩
  obtain ⟨t, rfl⟩ : ∃ t, T = t + 1 := ⟨T - 1, by omega⟩
  rw [fi_Ac (d := E) (by omega), el, nI_pred l, nI_pred t, nI_clamp (n := E) (by omega), fi_A_up]
  refine ⟨pk_in E 5 (by omega), pk_in E 5 (by omega), nm_e (nm_e ⟨pk_in E 5 (by omega), ?_⟩)⟩
  have e1 : 60 * nI E + fi_A (fi_up L E l) E = nI (60 * E + l) := by
    rw [fi_m60, ← nI_add]
    unfold fi_A
    rw [fi_up_s]
  rw [e1, nI_clamp (n := 60 * E + l) (by omega)]
  exact ⟨pk_in (60 * E + l) 300 (by omega), h1 l t el rfl⟩
theorem fx_close {post : Int32 → SX → Prop} (H : fi_inv (E + 1) T P L tx ty) (h0 : E = 0 → post (nI (L E)) (nI (E + 1), nI (T - L E), nI P, tx, fi_A (fi_up L E 0), pt)) (h1 : ¬ E = 0 → post (nI (L E)) (nI E, nI (T - L E), nI P, tx, fi_A (fi_up L E 0), pt)) : wpX_close post (nI (E + 1), nI T, nI P, tx, fi_A L, pt) := by
  have hE := H.1.2
  have ht := fi_LT H E
  unfold wpX_close
  refine nm_r (nI_pred E) ⟨pk_in E 5 (by omega), nm_r (fi_Ac (by omega)) ⟨pk_in E 5 (by omega), ?_⟩⟩
  rw [nI_clamp (n := E) (by omega), fi_A_up0, pk_sub ht]
  exact nm_e (nm_e (pk_le (E + 1) 1 (fun g => h0 (by omega)) (fun g => nm_r (nI_pred E) (h1 (by omega)))))
theorem fy_close {post : Int32 → SY → Prop} (H : fi_inv (E + 1) T P L tx ty) (h0 : E = 0 → post (nI (L E)) (nI (E + 1), nI (T - L E), nI P, ty, fi_A (fi_up L E 0), pt)) (h1 : ¬ E = 0 → post (nI (L E)) (nI E, nI (T - L E), nI P, ty, fi_A (fi_up L E 0), pt)) : wpY_close post (nI (E + 1), nI T, nI P, ty, fi_A L, pt) := by
  have hE := H.1.2
  have ht := fi_LT H E
  unfold wpY_close
  refine nm_r (nI_pred E) ⟨pk_in E 5 (by omega), nm_r (fi_Ac (by omega)) ⟨pk_in E 5 (by omega), ?_⟩⟩
  rw [nI_clamp (n := E) (by omega), fi_A_up0, pk_sub ht]
  exact nm_e (nm_e (pk_le (E + 1) 1 (fun g => h0 (by omega)) (fun g => nm_r (nI_pred E) (h1 (by omega)))))
theorem fi_close (H : fi_inv (E + 1) T P L tx ty) (h : ¬ E = 0) : fi_inv E (T - L E) P (fi_up L E 0) tx ty := by
  have hh := fi_cutL (x := 0) H (Nat.zero_le _)
  obtain ⟨⟨h1, h2⟩, h3, h5, h6, h7⟩ := hh
  refine ⟨⟨by omega, by omega⟩, h3, h5, fun d hd => ?_, h7⟩
  by_cases e : d = E
  · rw [e, fi_up_s]
  · exact h6 d (by omega)
theorem fi_pat {Q : Nat} (H : fi_inv D T P L tx ty) (h : Q ≤ 8) : fi_inv D T Q L tx ty := ⟨H.1, H.2.1, h, H.2.2.2⟩
end
end
section
/-- both sides hold the same documents (the component's place is 64 d + p, the reference's 60 d + p), lengths, pattern and counts -/
def i_Rel (_ : Nat) (u : SX) (v : SY) : Prop := ∃ (D T P : Nat) (L : Nat → Nat) (tx ty pt : Nat → Int32), u = (nI D, nI T, nI P, tx, fi_A L, pt) ∧ v = (nI D, nI T, nI P, ty, fi_A L, pt) ∧ fi_inv D T P L tx ty
theorem fi_rel {k D T P : Nat} {L : Nat → Nat} {tx ty pt : Nat → Int32} (H : fi_inv D T P L tx ty) : i_Rel k (nI D, nI T, nI P, tx, fi_A L, pt) (nI D, nI T, nI P, ty, fi_A L, pt) := ⟨D, T, P, L, tx, ty, pt, rfl, rfl, H⟩
theorem i_up {k : Nat} {u : SX} {v : SY} (h : i_Rel k u v) : i_Rel (k + 3) u v := h
theorem i_vc0 : wpX_init (fun u => wpY_init (fun v => i_Rel 0 u v)) := ⟨1, 0, 0, fun _ => 0, fun _ => 0, fun _ => 0, fun _ => 0, rfl, rfl, ⟨by omega, by omega⟩, ⟨rfl, by omega⟩, by omega, fun _ _ => rfl, fun _ _ _ h => absurd h (Nat.not_lt_zero _)⟩
theorem i_vc_push {k : Nat} {u : SX} {v : SY} (I : i_Rel k u v) (hk : k + 3 ≤ 1536) (v1 : Int32) : wpX_push (fun r u' => wpY_push (fun r' v' => r' = r ∧ i_Rel (k + 3) u' v') v v1) u v1 := by
  obtain ⟨D, T, P, L, tx, ty, pt, rfl, rfl, H⟩ := I
  have hT := H.2.1.2
  obtain ⟨E, rfl⟩ : ∃ E, D = E + 1 := ⟨D - 1, by have := H.1.1; omega⟩
  unfold wpX_push wpY_push
  by_cases hx : v1 < 0
  · exact fx_isSym_n hx (br_t rfl (fy_badSym_n hx (br_f fi_10 ⟨rfl, fi_rel H⟩)))
  · obtain ⟨j, hj, rfl⟩ := nI_of hx
    refine fx_isSym hj (fun h5 => br_f fi_10 (pk_lt T 60 (fun g => fx_app H g ?_) (fun g => ?_))) (fun h5 => br_t rfl ?_)
    · exact fy_badSym hj (fun _ => br_t rfl (pk_lt T 60 (fun _ => fy_app H g ⟨rfl, fi_rel (fi_app H g _)⟩) (fun z => absurd z (by omega)))) (fun z => absurd h5 z)
    · exact fy_badSym hj (fun _ => br_t rfl (pk_lt T 60 (fun z => absurd z (by omega)) (fun _ => ⟨rfl, fi_rel H⟩))) (fun z => absurd h5 z)
    · exact fy_badSym hj (fun z => absurd z h5) (fun _ => br_f fi_10 ⟨rfl, fi_rel H⟩)
theorem i_vc_paste {k : Nat} {u : SX} {v : SY} (I : i_Rel k u v) (hk : k + 3 ≤ 1536) (v1 : Int32) (v2 : Int32) : wpX_paste (fun r u' => wpY_paste (fun r' v' => r' = r ∧ i_Rel (k + 3) u' v') v v1 v2) u v1 v2 := by
  obtain ⟨D, T, P, L, tx, ty, pt, rfl, rfl, H⟩ := I
  have hT := H.2.1.2
  by_cases hx : v1 < 0
  · unfold wpX_paste wpY_paste
    exact fx_isDoc_n hx (br_t rfl (fy_bad_n hx (br_f fi_10 ⟨rfl, fi_rel H⟩)))
  · obtain ⟨d, hd, rfl⟩ := nI_of hx
    by_cases hD : d < D
    · by_cases hw : 0 ≤ v2
      · obtain ⟨w, hw2, rfl⟩ := nI_of (x := v2) (Int32.not_lt.mpr hw)
        refine fx_paste H hD hw2 (fun z => ?_) (fun z z2 => ?_) (fun z z2 => ?_)
        · exact fy_paste H hD hw2 (fun _ => ⟨rfl, fi_rel H⟩) (fun y _ => absurd y z) (fun y _ => absurd y z)
        · exact fy_paste H hD hw2 (fun y => absurd z y) (fun _ _ => ⟨rfl, fi_rel H⟩) (fun _ y => absurd y z2)
        · obtain ⟨E, rfl⟩ : ∃ E, D = E + 1 := ⟨D - 1, by omega⟩
          obtain ⟨T', L', tx', ty', H', hX, hY⟩ := fi_paste (E := E) (P := P) (pt := pt) (d := d) (f := w / 64) (M := w % 64) hD (w % 64) 0 T L tx ty (by omega) H z2 z.2.2
          refine ⟨w % 64 + 1, hX _ ?_⟩
          exact fy_paste H hD hw2 (fun y => absurd z y) (fun _ y => absurd z2 y) (fun _ _ => ⟨w % 64 + 1, hY _ ⟨rfl, fi_rel H'⟩⟩)
      · unfold wpX_paste wpY_paste
        exact fx_isDoc H hd (fun _ => br_f fi_10 (br_f hw (fy_bad H hd (fun _ => br_t rfl (br_f hw ⟨rfl, fi_rel H⟩)) (fun z => absurd hD z)))) (fun z => absurd hD z)
    · unfold wpX_paste wpY_paste
      exact fx_isDoc H hd (fun z => absurd z hD) (fun _ => br_t rfl (fy_bad H hd (fun z => absurd z hD) (fun _ => br_f fi_10 ⟨rfl, fi_rel H⟩)))
theorem i_vc_open {k : Nat} {u : SX} {v : SY} (I : i_Rel k u v) (hk : k + 3 ≤ 1536) : wpX_open (fun r u' => wpY_open (fun r' v' => r' = r ∧ i_Rel (k + 3) u' v') v) u := by
  obtain ⟨D, T, P, L, tx, ty, pt, rfl, rfl, H⟩ := I
  exact fx_open H (fun h => fy_open H (fun _ => ⟨rfl, fi_rel H⟩) (fun z => absurd z h)) (fun h => fy_open H (fun z => absurd h z) (fun _ => ⟨rfl, fi_rel (fi_open H h)⟩))
theorem i_vc_pop {k : Nat} {u : SX} {v : SY} (I : i_Rel k u v) (hk : k + 3 ≤ 1536) : wpX_pop (fun r u' => wpY_pop (fun r' v' => r' = r ∧ i_Rel (k + 3) u' v') v) u := by
  obtain ⟨D, T, P, L, tx, ty, pt, rfl, rfl, H⟩ := I
  obtain ⟨E, rfl⟩ : ∃ E, D = E + 1 := ⟨D - 1, by have := H.1.1; omega⟩
  refine fx_pop H (fun h => fy_pop H (fun _ => ⟨rfl, fi_rel H⟩) (fun l t z _ => absurd z (by omega))) (fun l t h ht => fy_pop H (fun z => absurd z (by omega)) (fun l' t' z zt => ?_))
  obtain rfl : l' = l := by omega
  obtain rfl : t' = t := by omega
  have hc := fi_cutL (x := l') H (by omega)
  have hl := fi_LT H E
  rw [show T - L E + l' = t' by omega] at hc
  exact ⟨fi_tx H (by omega), fi_rel hc⟩
theorem i_vc_close {k : Nat} {u : SX} {v : SY} (I : i_Rel k u v) (hk : k + 3 ≤ 1536) : wpX_close (fun r u' => wpY_close (fun r' v' => r' = r ∧ i_Rel (k + 3) u' v') v) u := by
  obtain ⟨D, T, P, L, tx, ty, pt, rfl, rfl, H⟩ := I
  obtain ⟨E, rfl⟩ : ∃ E, D = E + 1 := ⟨D - 1, by have := H.1.1; omega⟩
  exact fx_close H (fun h => fy_close H (fun _ => ⟨rfl, fi_rel (fi_cutL (x := 0) H (Nat.zero_le _))⟩) (fun z => absurd h z)) (fun h => fy_close H (fun z => absurd z h) (fun _ => ⟨rfl, fi_rel (fi_close H h)⟩))
theorem i_vc_documents {k : Nat} {u : SX} {v : SY} (I : i_Rel k u v) (hk : k + 3 ≤ 1536) : wpX_documents (fun r => wpY_documents (fun r' => r' = r ∧ i_Rel (k + 3) u v) v) u := by
  obtain ⟨D, T, P, L, tx, ty, pt, rfl, rfl, H⟩ := I
  exact ⟨rfl, fi_rel H⟩
theorem i_vc_length {k : Nat} {u : SX} {v : SY} (I : i_Rel k u v) (hk : k + 3 ≤ 1536) (v1 : Int32) : wpX_length (fun r => wpY_length (fun r' => r' = r ∧ i_Rel (k + 3) u v) v v1) u v1 := by
  obtain ⟨D, T, P, L, tx, ty, pt, rfl, rfl, H⟩ := I
  have hD := H.1.2
  unfold wpX_length wpY_length
  by_cases hx : v1 < 0
  · exact fx_isDoc_n hx (br_t rfl (fy_bad_n hx (br_f fi_10 ⟨rfl, fi_rel H⟩)))
  · obtain ⟨d, hd, rfl⟩ := nI_of hx
    exact fx_isDoc H hd (fun h => br_f fi_10 ⟨pk_in d 5 (by omega), fy_bad H hd (fun _ => br_t rfl ⟨pk_in d 5 (by omega), rfl, fi_rel H⟩) (fun z => absurd h z)⟩) (fun h => br_t rfl (fy_bad H hd (fun z => absurd z h) (fun _ => br_f fi_10 ⟨rfl, fi_rel H⟩)))
theorem i_vc_symbolAt {k : Nat} {u : SX} {v : SY} (I : i_Rel k u v) (hk : k + 3 ≤ 1536) (v1 : Int32) : wpX_symbolAt (fun r => wpY_symbolAt (fun r' => r' = r ∧ i_Rel (k + 3) u v) v v1) u v1 := by
  obtain ⟨D, T, P, L, tx, ty, pt, rfl, rfl, H⟩ := I
  unfold wpX_symbolAt wpY_symbolAt
  by_cases hx : v1 < 0
  · exact fx_isPlace_n hx (br_t rfl (fy_badPlace_n hx (br_f fi_10 ⟨rfl, fi_rel H⟩)))
  · obtain ⟨q, hq, rfl⟩ := nI_of hx
    refine fx_isPlace H hq (fun e => br_f fi_10 ?_) (fun e => br_t rfl (fy_badPlace H hq (fun z => absurd (z.symm.trans e) (by decide)) (fun _ => br_f fi_10 ⟨rfl, fi_rel H⟩)))
    have ho := fi_okl H e
    have hl := fi_L60 H (q / 64)
    have e1 : 60 * (nI q / 64) + (nI q - nI q / 64 * 64) = nI (60 * (q / 64) + q % 64) := by rw [fi_r64' hq, fi_d64 hq, fi_m60, nI_add]
    refine ⟨pk_in q 320 (by omega), fy_badPlace H hq (fun _ => br_t rfl ⟨fi_640, fi_640, ?_⟩) (fun z => absurd (z.symm.trans e) (by decide))⟩
    rw [e1, nI_clamp (n := 60 * (q / 64) + q % 64) (by omega), nI_clamp (n := q) (by omega)]
    refine ⟨pk_in (60 * (q / 64) + q % 64) 300 (by omega), ?_, fi_rel H⟩
    rw [fi_tx H ho.2.2, show 64 * (q / 64) + q % 64 = q by omega]
theorem i_vc_ask {k : Nat} {u : SX} {v : SY} (I : i_Rel k u v) (hk : k + 3 ≤ 1536) (v1 : Int32) : wpX_ask (fun r u' => wpY_ask (fun r' v' => r' = r ∧ i_Rel (k + 3) u' v') v v1) u v1 := by
  obtain ⟨D, T, P, L, tx, ty, pt, rfl, rfl, H⟩ := I
  have hP := H.2.2.1
  unfold wpX_ask wpY_ask
  by_cases hx : v1 < 0
  · exact fx_isSym_n hx (br_t rfl (fy_badSym_n hx (br_f fi_10 ⟨rfl, fi_rel H⟩)))
  · obtain ⟨j, hj, rfl⟩ := nI_of hx
    refine fx_isSym hj (fun h5 => br_f fi_10 (pk_lt P 8 (fun g => ⟨pk_in P 8 g, ?_⟩) (fun g => ?_))) (fun h5 => br_t rfl ?_)
    · rw [nI_1 P]
      exact nm_e (nm_e (fy_badSym hj (fun _ => br_t rfl (pk_lt P 8 (fun _ => ⟨pk_in P 8 g, nm_e (nm_r (nI_1 P) ⟨rfl, fi_rel (fi_pat H (by omega))⟩)⟩) (fun z => absurd z (by omega)))) (fun z => absurd h5 z)))
    · exact fy_badSym hj (fun _ => br_t rfl (pk_lt P 8 (fun z => absurd z (by omega)) (fun _ => ⟨rfl, fi_rel H⟩))) (fun z => absurd h5 z)
    · exact fy_badSym hj (fun z => absurd z h5) (fun _ => br_f fi_10 ⟨rfl, fi_rel H⟩)
theorem i_vc_forget {k : Nat} {u : SX} {v : SY} (I : i_Rel k u v) (hk : k + 3 ≤ 1536) : wpX_forget (fun r u' => wpY_forget (fun r' v' => r' = r ∧ i_Rel (k + 3) u' v') v) u := by
  obtain ⟨D, T, P, L, tx, ty, pt, rfl, rfl, H⟩ := I
  exact ⟨rfl, fi_rel (P := 0) (fi_pat H (by omega))⟩
theorem i_vc_count {k : Nat} {u : SX} {v : SY} (I : i_Rel k u v) (hk : k + 3 ≤ 1536) : wpX_count (fun r => wpY_count (fun r' => r' = r ∧ i_Rel (k + 3) u v) v) u := by
  obtain ⟨D, T, P, L, tx, ty, pt, rfl, rfl, H⟩ := I
  exact fx_count H (fun h => fy_count H (fun _ => ⟨rfl, fi_rel H⟩) (fun z => absurd h z)) (fun h => fy_count H (fun z => absurd z h) (fun _ => ⟨rfl, fi_rel H⟩))
theorem i_vc_occurrence {k : Nat} {u : SX} {v : SY} (I : i_Rel k u v) (hk : k + 3 ≤ 1536) (v1 : Int32) : wpX_occurrence (fun r => wpY_occurrence (fun r' => r' = r ∧ i_Rel (k + 3) u v) v v1) u v1 := by
  obtain ⟨D, T, P, L, tx, ty, pt, rfl, rfl, H⟩ := I
  exact fx_occurrence H (fun h => fy_occurrence H (fun _ => ⟨rfl, fi_rel H⟩) (fun z => absurd h z)) (fun h => fy_occurrence H (fun z => absurd z h) (fun _ => ⟨rfl, fi_rel H⟩))
theorem i_vc_countIn {k : Nat} {u : SX} {v : SY} (I : i_Rel k u v) (hk : k + 3 ≤ 1536) (v1 : Int32) : wpX_countIn (fun r => wpY_countIn (fun r' => r' = r ∧ i_Rel (k + 3) u v) v v1) u v1 := by
  obtain ⟨D, T, P, L, tx, ty, pt, rfl, rfl, H⟩ := I
  have hP := H.2.2.1
  have hD := H.1.2
  unfold wpX_countIn wpY_countIn
  refine pk_eq P 0 (fun h => pk_eq P 0 (fun _ => ⟨rfl, fi_rel H⟩) (fun z => absurd h z)) (fun h => ?_)
  by_cases hx : v1 < 0
  · exact fx_isDoc_n hx (br_t rfl (pk_eq P 0 (fun z => absurd z h) (fun _ => fy_bad_n hx (br_f fi_10 ⟨rfl, fi_rel H⟩))))
  · obtain ⟨d, hd, rfl⟩ := nI_of hx
    refine fx_isDoc H hd (fun g => br_f fi_10 (fx_occ H (by omega) ?_)) (fun g => br_t rfl ?_)
    · exact pk_eq P 0 (fun z => absurd z h) (fun _ => fy_bad H hd (fun _ => br_t rfl (fy_occ H (by omega) ⟨rfl, fi_rel H⟩)) (fun z => absurd g z))
    · exact pk_eq P 0 (fun z => absurd z h) (fun _ => fy_bad H hd (fun z => absurd z g) (fun _ => br_f fi_10 ⟨rfl, fi_rel H⟩))
theorem i_vc_spread {k : Nat} {u : SX} {v : SY} (I : i_Rel k u v) (hk : k + 3 ≤ 1536) : wpX_spread (fun r => wpY_spread (fun r' => r' = r ∧ i_Rel (k + 3) u v) v) u := by
  obtain ⟨D, T, P, L, tx, ty, pt, rfl, rfl, H⟩ := I
  exact fx_spread H (fun h => fy_spread H (fun _ => ⟨rfl, fi_rel H⟩) (fun z => absurd h z)) (fun h => fy_spread H (fun z => absurd z h) (fun _ => ⟨rfl, fi_rel H⟩))
theorem i_vc_longestEnd {k : Nat} {u : SX} {v : SY} (I : i_Rel k u v) (hk : k + 3 ≤ 1536) : wpX_longestEnd (fun r => wpY_longestEnd (fun r' => r' = r ∧ i_Rel (k + 3) u v) v) u := by
  obtain ⟨D, T, P, L, tx, ty, pt, rfl, rfl, H⟩ := I
  exact fx_longestEnd H (fy_longestEnd H ⟨rfl, fi_rel H⟩)
theorem i_vc_longestBegin {k : Nat} {u : SX} {v : SY} (I : i_Rel k u v) (hk : k + 3 ≤ 1536) : wpX_longestBegin (fun r => wpY_longestBegin (fun r' => r' = r ∧ i_Rel (k + 3) u v) v) u := by
  obtain ⟨D, T, P, L, tx, ty, pt, rfl, rfl, H⟩ := I
  exact fx_longestBegin H (fy_longestBegin H ⟨rfl, fi_rel H⟩)
theorem i_vc_ranked {k : Nat} {u : SX} {v : SY} (I : i_Rel k u v) (hk : k + 3 ≤ 1536) (v1 : Int32) : wpX_ranked (fun r => wpY_ranked (fun r' => r' = r ∧ i_Rel (k + 3) u v) v v1) u v1 := by
  obtain ⟨D, T, P, L, tx, ty, pt, rfl, rfl, H⟩ := I
  exact fx_ranked H (fy_ranked H ⟨rfl, fi_rel H⟩)
theorem i_vc_rankOf {k : Nat} {u : SX} {v : SY} (I : i_Rel k u v) (hk : k + 3 ≤ 1536) (v1 : Int32) : wpX_rankOf (fun r => wpY_rankOf (fun r' => r' = r ∧ i_Rel (k + 3) u v) v v1) u v1 := by
  obtain ⟨D, T, P, L, tx, ty, pt, rfl, rfl, H⟩ := I
  unfold wpX_rankOf wpY_rankOf
  by_cases hx : v1 < 0
  · exact fx_isPlace_n hx (br_t rfl (fy_badPlace_n hx (br_f fi_10 ⟨rfl, fi_rel H⟩)))
  · obtain ⟨q, hq, rfl⟩ := nI_of hx
    refine fx_isPlace H hq (fun e => br_f fi_10 ?_) (fun e => br_t rfl (fy_badPlace H hq (fun z => absurd (z.symm.trans e) (by decide)) (fun _ => br_f fi_10 ⟨rfl, fi_rel H⟩)))
    have ho := fi_okl H e
    have hl := fi_L60 H (q / 64)
    refine fx_rk H e (fy_badPlace H hq (fun _ => br_t rfl ⟨fi_640, fi_640, ?_⟩) (fun z => absurd (z.symm.trans e) (by decide)))
    rw [fi_r64' hq, fi_d64 hq]
    refine fy_rk H ho.1 ho.2.1 ⟨?_, fi_rel H⟩
    rw [show 64 * (q / 64) + q % 64 = q by omega]
theorem i_vc_common {k : Nat} {u : SX} {v : SY} (I : i_Rel k u v) (hk : k + 3 ≤ 1536) (v1 : Int32) (v2 : Int32) : wpX_common (fun r => wpY_common (fun r' => r' = r ∧ i_Rel (k + 3) u v) v v1 v2) u v1 v2 := by
  obtain ⟨D, T, P, L, tx, ty, pt, rfl, rfl, H⟩ := I
  unfold wpX_common wpY_common
  by_cases hx : v1 < 0
  · exact fx_isPlace_n hx (br_t rfl (fy_badPlace_n hx (br_f fi_10 ⟨rfl, fi_rel H⟩)))
  · obtain ⟨q, hq, rfl⟩ := nI_of hx
    refine fx_isPlace H hq (fun e => br_f fi_10 ?_) (fun e => br_t rfl (fy_badPlace H hq (fun z => absurd (z.symm.trans e) (by decide)) (fun _ => br_f fi_10 ⟨rfl, fi_rel H⟩)))
    by_cases hy : v2 < 0
    · exact fx_isPlace_n hy (br_t rfl (fy_badPlace H hq (fun _ => br_t rfl (fy_badPlace_n hy (br_f fi_10 ⟨rfl, fi_rel H⟩))) (fun z => absurd (z.symm.trans e) (by decide))))
    · obtain ⟨r, hr, rfl⟩ := nI_of hy
      refine fx_isPlace H hr (fun e2 => br_f fi_10 ?_) (fun e2 => br_t rfl (fy_badPlace H hq (fun _ => br_t rfl (fy_badPlace H hr (fun z => absurd (z.symm.trans e2) (by decide)) (fun _ => br_f fi_10 ⟨rfl, fi_rel H⟩))) (fun z => absurd (z.symm.trans e) (by decide))))
      have ho := fi_okl H e
      have ho2 := fi_okl H e2
      refine fx_sh H ho.1 ho.2.1 ho2.1 ho2.2.1 (fy_badPlace H hq (fun _ => br_t rfl (fy_badPlace H hr (fun _ => br_t rfl ⟨fi_640, fi_640, fi_640, fi_640, ?_⟩) (fun z => absurd (z.symm.trans e2) (by decide)))) (fun z => absurd (z.symm.trans e) (by decide)))
      rw [fi_r64' hq, fi_d64 hq, fi_r64' hr, fi_d64 hr]
      refine fy_sh H ho.1 ho2.1 ho.2.1 ho2.2.1 ⟨?_, fi_rel H⟩
      rw [show 64 * (q / 64) + q % 64 = q by omega, show 64 * (r / 64) + r % 64 = r by omega]
theorem i_vc_repeated {k : Nat} {u : SX} {v : SY} (I : i_Rel k u v) (hk : k + 3 ≤ 1536) : wpX_repeated (fun r => wpY_repeated (fun r' => r' = r ∧ i_Rel (k + 3) u v) v) u := by
  obtain ⟨D, T, P, L, tx, ty, pt, rfl, rfl, H⟩ := I
  exact fx_repeated H (fy_repeated H ⟨rfl, fi_rel H⟩)
theorem i_vc_different {k : Nat} {u : SX} {v : SY} (I : i_Rel k u v) (hk : k + 3 ≤ 1536) : wpX_different (fun r => wpY_different (fun r' => r' = r ∧ i_Rel (k + 3) u v) v) u := by
  obtain ⟨D, T, P, L, tx, ty, pt, rfl, rfl, H⟩ := I
  exact fx_different H (fy_different H ⟨rfl, fi_rel H⟩)
theorem i_vc_extensions {k : Nat} {u : SX} {v : SY} (I : i_Rel k u v) (hk : k + 3 ≤ 1536) : wpX_extensions (fun r => wpY_extensions (fun r' => r' = r ∧ i_Rel (k + 3) u v) v) u := by
  obtain ⟨D, T, P, L, tx, ty, pt, rfl, rfl, H⟩ := I
  exact fx_extensions H (fy_extensions H ⟨rfl, fi_rel H⟩)
end
